set_option maxRecDepth 100000 in
theorem t_X8_changeOnTrial {sh : List z_C} {w : Nat → Int → Int} {Q : Option z_V → z_S → Prop} {x1 : Int} (hh0 : z_isTG sh 0) (h : ((x1 = 0 → z_CI mX2_countOtherBounds [z_r 12, z_r 18] sh w (fun y3 w2 => Q (some (z_i y3)) (sh, w2))) ∧ (x1 = 1 → z_CI mX2_countOtherTimes [z_r 12, z_r 18] sh w (fun y5 w4 => Q (some (z_i y5)) (sh, w4))) ∧ (¬ x1 = 0 ∧ ¬ x1 = 1 → z_CI mX2_room [z_r 18] sh w (fun y7 w6 => Q (some (z_i y7)) (sh, w6))))) : z_Sem mX8_changeOnTrial (sh.length, 0) 0 [(0, z_r 0), (1, z_i x1)] [] (sh, w) Q := by
  refine z_iload_n 1 dX8_changeOnTrial_0 rfl rfl ?_
  rcases Decidable.em (x1 = 0) with c1 | c1_0
  · replace h := h.1 c1
    refine z_look (off := 27) (tgt := 28) dX8_changeOnTrial_1 (by decide) (by rw [c1]; rfl) (by decide) ?_
    refine z_aload_n 0 dX8_changeOnTrial_28 rfl rfl ?_
    refine z_getR (r := 12) zfRX8_19 dX8_changeOnTrial_29 hh0.1 rfl ?_
    refine z_aload_n 0 dX8_changeOnTrial_32 rfl rfl ?_
    refine z_getR (r := 18) zfRX8_23 dX8_changeOnTrial_33 hh0.1 rfl ?_
    refine z_callV (As := [z_r 18]) (rest := []) zmX2_countOtherBounds znX2_countOtherBounds zsX2_countOtherBounds (show vwCl[2]? = some (RX2, TX2, 7) from rfl) zlRX8_388 ⟨Nat.le_of_ble_eq_true rfl, Nat.le_of_ble_eq_true rfl⟩ dX8_changeOnTrial_36 hh0.2.2.1.1 rfl rfl (z_ar z_a0) (Nat.le_of_ble_eq_true rfl) (Nat.le_of_ble_eq_true rfl) ⟨Nat.le_refl _, Nat.le_refl _⟩ (z_CIm h ?_)
    intro y3 w2 h
    show z_Sem mX8_changeOnTrial (sh.length, 0) 39 [(0, z_r 0), (1, z_i x1)] [z_i y3] (sh, w2) Q
    exact z_ret (v := some (z_i y3)) dX8_changeOnTrial_39 ⟨rfl, Or.inl rfl⟩ rfl rfl h
  rcases Decidable.em (x1 = 1) with c1 | c1_1
  · replace h := h.2.1 c1
    refine z_look (off := 39) (tgt := 40) dX8_changeOnTrial_1 (by decide) (by rw [c1]; rfl) (by decide) ?_
    refine z_aload_n 0 dX8_changeOnTrial_40 rfl rfl ?_
    refine z_getR (r := 12) zfRX8_19 dX8_changeOnTrial_41 hh0.1 rfl ?_
    refine z_aload_n 0 dX8_changeOnTrial_44 rfl rfl ?_
    refine z_getR (r := 18) zfRX8_23 dX8_changeOnTrial_45 hh0.1 rfl ?_
    refine z_callV (As := [z_r 18]) (rest := []) zmX2_countOtherTimes znX2_countOtherTimes zsX2_countOtherTimes (show vwCl[2]? = some (RX2, TX2, 7) from rfl) zlRX8_392 ⟨Nat.le_of_ble_eq_true rfl, Nat.le_of_ble_eq_true rfl⟩ dX8_changeOnTrial_48 hh0.2.2.1.1 rfl rfl (z_ar z_a0) (Nat.le_of_ble_eq_true rfl) (Nat.le_of_ble_eq_true rfl) ⟨Nat.le_refl _, Nat.le_refl _⟩ (z_CIm h ?_)
    intro y5 w4 h
    show z_Sem mX8_changeOnTrial (sh.length, 0) 51 [(0, z_r 0), (1, z_i x1)] [z_i y5] (sh, w4) Q
    exact z_ret (v := some (z_i y5)) dX8_changeOnTrial_51 ⟨rfl, Or.inl rfl⟩ rfl rfl h
  replace h := h.2.2 ⟨c1_0, c1_1⟩
  refine z_look (off := 51) (tgt := 52) dX8_changeOnTrial_1 (by decide) (z_lkd (List.forall_mem_cons.mpr ⟨fun e => c1_0 e.symm, List.forall_mem_cons.mpr ⟨fun e => c1_1 e.symm, fun _ h => by cases h⟩⟩)) (by decide) ?_
  refine z_aload_n 0 dX8_changeOnTrial_52 rfl rfl ?_
  refine z_getR (r := 18) zfRX8_23 dX8_changeOnTrial_53 hh0.1 rfl ?_
  refine z_callV (As := []) (rest := []) zmX2_room znX2_room zsX2_room (show vwCl[2]? = some (RX2, TX2, 7) from rfl) zlRX8_214 ⟨Nat.le_of_ble_eq_true rfl, Nat.le_of_ble_eq_true rfl⟩ dX8_changeOnTrial_56 hh0.2.2.2.1.1 rfl rfl z_a0 (Nat.le_of_ble_eq_true rfl) (Nat.le_of_ble_eq_true rfl) ⟨Nat.le_refl _, Nat.le_refl _⟩ (z_CIm h ?_)
  intro y7 w6 h
  show z_Sem mX8_changeOnTrial (sh.length, 0) 59 [(0, z_r 0), (1, z_i x1)] [z_i y7] (sh, w6) Q
  exact z_ret (v := some (z_i y7)) dX8_changeOnTrial_59 ⟨rfl, Or.inl rfl⟩ rfl rfl h
set_option maxRecDepth 100000 in
theorem t_X8_ifTold {sh : List z_C} {w : Nat → Int → Int} {Q : Option z_V → z_S → Prop} {x1 : Int} {x2 : Int} {x3 : Int} {x4 : Int} {x5 : Int} (hh0 : z_isTG sh 0) (h : (((f_X8_isTellable w x1 x2 x3 x4) = 0 → Q (some (z_i (-1))) (sh, w)) ∧ (¬ (f_X8_isTellable w x1 x2 x3 x4) = 0 → (((f_X8_isChange w x5) = 0 → Q (some (z_i (-1))) (sh, w)) ∧ (¬ (f_X8_isChange w x5) = 0 → (s_X2_leastRing w 12 x1 x2 x3 x4) ∧ ((0 ≤ (f_X2_leastRing w 12 x1 x2 x3 x4) → z_CV mX2_copyBounds [z_r 18, z_r 12] sh w (fun w5 => z_CV mX2_addGapStep [z_r 18, z_i x1, z_i x2, z_i x3, z_i x4] sh w5 (fun w6 => z_CI mX8_changeOnTrial [z_r 0, z_i x5] sh w6 (fun y8 w7 => Q (some (z_i y8)) (sh, w7))))) ∧ (¬ 0 ≤ (f_X2_leastRing w 12 x1 x2 x3 x4) → Q (some (z_i (-5))) (sh, w)))))))) : z_Sem mX8_ifTold (sh.length, 0) 0 [(0, z_r 0), (1, z_i x1), (2, z_i x2), (3, z_i x3), (4, z_i x4), (5, z_i x5)] [] (sh, w) Q := by
  refine z_aload_n 0 dX8_ifTold_0 rfl rfl ?_
  refine z_iload_n 1 dX8_ifTold_1 rfl rfl ?_
  refine z_iload_n 2 dX8_ifTold_2 rfl rfl ?_
  refine z_iload_n 3 dX8_ifTold_3 rfl rfl ?_
  refine z_iload 4 dX8_ifTold_4 rfl ?_
  refine z_callV (As := [z_i x1, z_i x2, z_i x3, z_i x4]) (rest := []) zmX8_isTellable znX8_isTellable zsX8_isTellable (show vwCl[8]? = some (RX8, TX8, 9) from rfl) zlRX8_116 ⟨Nat.le_of_ble_eq_true rfl, Nat.le_of_ble_eq_true rfl⟩ dX8_ifTold_6 hh0.1 rfl rfl (z_ai (z_ai (z_ai (z_ai z_a0)))) (Nat.le_of_ble_eq_true rfl) (Nat.le_of_ble_eq_true rfl) ⟨Nat.le_refl _, Nat.le_refl _⟩ ?_
  refine t_X8_isTellable hh0 ?_
  show z_Sem mX8_ifTold (sh.length, 0) 9 [(0, z_r 0), (1, z_i x1), (2, z_i x2), (3, z_i x3), (4, z_i x4), (5, z_i x5)] [z_i (f_X8_isTellable w x1 x2 x3 x4)] (sh, w) Q
  refine z_if_eq (tgt := 20) dX8_ifTold_9 (by decide) (fun c1 => ?_) (fun c1 => ?_)
  · replace h := h.1 c1
    refine z_iconst dX8_ifTold_20 (by decide) ?_
    exact z_ret (v := some (z_i (-1))) dX8_ifTold_21 ⟨rfl, Or.inl rfl⟩ rfl rfl h
  · replace h := h.2 c1
    refine z_iload 5 dX8_ifTold_12 rfl ?_
    refine z_callS (As := [z_i x5]) (rest := []) zmX8_isChange ztX8_isChange zlRX8_339 ⟨Nat.le_of_ble_eq_true rfl, Nat.le_of_ble_eq_true rfl⟩ dX8_ifTold_14 rfl rfl (z_ai z_a0) (Nat.le_of_ble_eq_true rfl) (Nat.le_of_ble_eq_true rfl) ⟨Nat.le_refl _, Nat.le_refl _⟩ ?_
    refine t_X8_isChange  ?_
    show z_Sem mX8_ifTold (sh.length, 0) 17 [(0, z_r 0), (1, z_i x1), (2, z_i x2), (3, z_i x3), (4, z_i x4), (5, z_i x5)] [z_i (f_X8_isChange w x5)] (sh, w) Q
    refine z_if_ne (tgt := 22) dX8_ifTold_17 (by decide) (fun c2 => ?_) (fun c2 => ?_)
    · replace h := h.2 c2
      refine z_aload_n 0 dX8_ifTold_22 rfl rfl ?_
      refine z_getR (r := 12) zfRX8_19 dX8_ifTold_23 hh0.1 rfl ?_
      refine z_iload_n 1 dX8_ifTold_26 rfl rfl ?_
      refine z_iload_n 2 dX8_ifTold_27 rfl rfl ?_
      refine z_iload_n 3 dX8_ifTold_28 rfl rfl ?_
      refine z_iload 4 dX8_ifTold_29 rfl ?_
      obtain ⟨q3, h⟩ := h
      refine z_callV (As := [z_i x1, z_i x2, z_i x3, z_i x4]) (rest := []) zmX2_leastRing znX2_leastRing zsX2_leastRing (show vwCl[2]? = some (RX2, TX2, 7) from rfl) zlRX8_120 ⟨Nat.le_of_ble_eq_true rfl, Nat.le_of_ble_eq_true rfl⟩ dX8_ifTold_31 hh0.2.2.1.1 rfl rfl (z_ai (z_ai (z_ai (z_ai z_a0)))) (Nat.le_of_ble_eq_true rfl) (Nat.le_of_ble_eq_true rfl) ⟨Nat.le_refl _, Nat.le_refl _⟩ ?_
      refine t_X2_leastRing hh0.2.2.1 q3 ?_
      show z_Sem mX8_ifTold (sh.length, 0) 34 [(0, z_r 0), (1, z_i x1), (2, z_i x2), (3, z_i x3), (4, z_i x4), (5, z_i x5)] [z_i (f_X2_leastRing w 12 x1 x2 x3 x4)] (sh, w) Q
      refine z_if_ge (tgt := 40) dX8_ifTold_34 (by decide) (fun c4 => ?_) (fun c4 => ?_)
      · replace h := h.1 c4
        refine z_aload_n 0 dX8_ifTold_40 rfl rfl ?_
        refine z_getR (r := 18) zfRX8_23 dX8_ifTold_41 hh0.1 rfl ?_
        refine z_aload_n 0 dX8_ifTold_44 rfl rfl ?_
        refine z_getR (r := 12) zfRX8_19 dX8_ifTold_45 hh0.1 rfl ?_
        refine z_callV (As := [z_r 12]) (rest := []) zmX2_copyBounds znX2_copyBounds zsX2_copyBounds (show vwCl[2]? = some (RX2, TX2, 7) from rfl) zlRX8_308 ⟨Nat.le_of_ble_eq_true rfl, Nat.le_of_ble_eq_true rfl⟩ dX8_ifTold_48 hh0.2.2.2.1.1 rfl rfl (z_ar z_a0) (Nat.le_of_ble_eq_true rfl) (Nat.le_of_ble_eq_true rfl) ⟨Nat.le_refl _, Nat.le_refl _⟩ (z_CVm h ?_)
        intro w5 h
        show z_Sem mX8_ifTold (sh.length, 0) 51 [(0, z_r 0), (1, z_i x1), (2, z_i x2), (3, z_i x3), (4, z_i x4), (5, z_i x5)] [] (sh, w5) Q
        refine z_aload_n 0 dX8_ifTold_51 rfl rfl ?_
        refine z_getR (r := 18) zfRX8_23 dX8_ifTold_52 hh0.1 rfl ?_
        refine z_iload_n 1 dX8_ifTold_55 rfl rfl ?_
        refine z_iload_n 2 dX8_ifTold_56 rfl rfl ?_
        refine z_iload_n 3 dX8_ifTold_57 rfl rfl ?_
        refine z_iload 4 dX8_ifTold_58 rfl ?_
        refine z_callV (As := [z_i x1, z_i x2, z_i x3, z_i x4]) (rest := []) zmX2_addGapStep znX2_addGapStep zsX2_addGapStep (show vwCl[2]? = some (RX2, TX2, 7) from rfl) zlRX8_342 ⟨Nat.le_of_ble_eq_true rfl, Nat.le_of_ble_eq_true rfl⟩ dX8_ifTold_60 hh0.2.2.2.1.1 rfl rfl (z_ai (z_ai (z_ai (z_ai z_a0)))) (Nat.le_of_ble_eq_true rfl) (Nat.le_of_ble_eq_true rfl) ⟨Nat.le_refl _, Nat.le_refl _⟩ (z_CVm h ?_)
        intro w6 h
        show z_Sem mX8_ifTold (sh.length, 0) 63 [(0, z_r 0), (1, z_i x1), (2, z_i x2), (3, z_i x3), (4, z_i x4), (5, z_i x5)] [] (sh, w6) Q
        refine z_aload_n 0 dX8_ifTold_63 rfl rfl ?_
        refine z_iload 5 dX8_ifTold_64 rfl ?_
        refine z_callV (As := [z_i x5]) (rest := []) zmX8_changeOnTrial znX8_changeOnTrial zsX8_changeOnTrial (show vwCl[8]? = some (RX8, TX8, 9) from rfl) zlRX8_346 ⟨Nat.le_of_ble_eq_true rfl, Nat.le_of_ble_eq_true rfl⟩ dX8_ifTold_66 hh0.1 rfl rfl (z_ai z_a0) (Nat.le_of_ble_eq_true rfl) (Nat.le_of_ble_eq_true rfl) ⟨Nat.le_refl _, Nat.le_refl _⟩ (z_CIm h ?_)
        intro y8 w7 h
        show z_Sem mX8_ifTold (sh.length, 0) 69 [(0, z_r 0), (1, z_i x1), (2, z_i x2), (3, z_i x3), (4, z_i x4), (5, z_i x5)] [z_i y8] (sh, w7) Q
        exact z_ret (v := some (z_i y8)) dX8_ifTold_69 ⟨rfl, Or.inl rfl⟩ rfl rfl h
      · replace h := h.2 c4
        refine z_bipush dX8_ifTold_37 (by decide) (by decide) ?_
        exact z_ret (v := some (z_i (-5))) dX8_ifTold_39 ⟨rfl, Or.inl rfl⟩ rfl rfl h
    · replace h := h.1 c2
      refine z_iconst dX8_ifTold_20 (by decide) ?_
      exact z_ret (v := some (z_i (-1))) dX8_ifTold_21 ⟨rfl, Or.inl rfl⟩ rfl rfl h
set_option maxRecDepth 100000 in
theorem t_X8_ifDropped {sh : List z_C} {w : Nat → Int → Int} {Q : Option z_V → z_S → Prop} {x1 : Int} {x2 : Int} (hh0 : z_isTG sh 0) (h : (((f_X8_isGap w x1) = 0 → Q (some (z_i (-1))) (sh, w)) ∧ (¬ (f_X8_isGap w x1) = 0 → (((f_X8_isChange w x2) = 0 → Q (some (z_i (-1))) (sh, w)) ∧ (¬ (f_X8_isChange w x2) = 0 → z_CV mX8_tryWithout [z_r 0, z_i x1] sh w (fun w3 => z_CI mX8_changeOnTrial [z_r 0, z_i x2] sh w3 (fun y5 w4 => Q (some (z_i y5)) (sh, w4)))))))) : z_Sem mX8_ifDropped (sh.length, 0) 0 [(0, z_r 0), (1, z_i x1), (2, z_i x2)] [] (sh, w) Q := by
  refine z_aload_n 0 dX8_ifDropped_0 rfl rfl ?_
  refine z_iload_n 1 dX8_ifDropped_1 rfl rfl ?_
  refine z_callV (As := [z_i x1]) (rest := []) zmX8_isGap znX8_isGap zsX8_isGap (show vwCl[8]? = some (RX8, TX8, 9) from rfl) zlRX8_137 ⟨Nat.le_of_ble_eq_true rfl, Nat.le_of_ble_eq_true rfl⟩ dX8_ifDropped_2 hh0.1 rfl rfl (z_ai z_a0) (Nat.le_of_ble_eq_true rfl) (Nat.le_of_ble_eq_true rfl) ⟨Nat.le_refl _, Nat.le_refl _⟩ ?_
  refine t_X8_isGap hh0 ?_
  show z_Sem mX8_ifDropped (sh.length, 0) 5 [(0, z_r 0), (1, z_i x1), (2, z_i x2)] [z_i (f_X8_isGap w x1)] (sh, w) Q
  refine z_if_eq (tgt := 15) dX8_ifDropped_5 (by decide) (fun c1 => ?_) (fun c1 => ?_)
  · replace h := h.1 c1
    refine z_iconst dX8_ifDropped_15 (by decide) ?_
    exact z_ret (v := some (z_i (-1))) dX8_ifDropped_16 ⟨rfl, Or.inl rfl⟩ rfl rfl h
  · replace h := h.2 c1
    refine z_iload_n 2 dX8_ifDropped_8 rfl rfl ?_
    refine z_callS (As := [z_i x2]) (rest := []) zmX8_isChange ztX8_isChange zlRX8_339 ⟨Nat.le_of_ble_eq_true rfl, Nat.le_of_ble_eq_true rfl⟩ dX8_ifDropped_9 rfl rfl (z_ai z_a0) (Nat.le_of_ble_eq_true rfl) (Nat.le_of_ble_eq_true rfl) ⟨Nat.le_refl _, Nat.le_refl _⟩ ?_
    refine t_X8_isChange  ?_
    show z_Sem mX8_ifDropped (sh.length, 0) 12 [(0, z_r 0), (1, z_i x1), (2, z_i x2)] [z_i (f_X8_isChange w x2)] (sh, w) Q
    refine z_if_ne (tgt := 17) dX8_ifDropped_12 (by decide) (fun c2 => ?_) (fun c2 => ?_)
    · replace h := h.2 c2
      refine z_aload_n 0 dX8_ifDropped_17 rfl rfl ?_
      refine z_iload_n 1 dX8_ifDropped_18 rfl rfl ?_
      refine z_callV (As := [z_i x1]) (rest := []) zmX8_tryWithout znX8_tryWithout zsX8_tryWithout (show vwCl[8]? = some (RX8, TX8, 9) from rfl) zlRX8_201 ⟨Nat.le_of_ble_eq_true rfl, Nat.le_of_ble_eq_true rfl⟩ dX8_ifDropped_19 hh0.1 rfl rfl (z_ai z_a0) (Nat.le_of_ble_eq_true rfl) (Nat.le_of_ble_eq_true rfl) ⟨Nat.le_refl _, Nat.le_refl _⟩ (z_CVm h ?_)
      intro w3 h
      show z_Sem mX8_ifDropped (sh.length, 0) 22 [(0, z_r 0), (1, z_i x1), (2, z_i x2)] [] (sh, w3) Q
      refine z_aload_n 0 dX8_ifDropped_22 rfl rfl ?_
      refine z_iload_n 2 dX8_ifDropped_23 rfl rfl ?_
      refine z_callV (As := [z_i x2]) (rest := []) zmX8_changeOnTrial znX8_changeOnTrial zsX8_changeOnTrial (show vwCl[8]? = some (RX8, TX8, 9) from rfl) zlRX8_346 ⟨Nat.le_of_ble_eq_true rfl, Nat.le_of_ble_eq_true rfl⟩ dX8_ifDropped_24 hh0.1 rfl rfl (z_ai z_a0) (Nat.le_of_ble_eq_true rfl) (Nat.le_of_ble_eq_true rfl) ⟨Nat.le_refl _, Nat.le_refl _⟩ (z_CIm h ?_)
      intro y5 w4 h
      show z_Sem mX8_ifDropped (sh.length, 0) 27 [(0, z_r 0), (1, z_i x1), (2, z_i x2)] [z_i y5] (sh, w4) Q
      exact z_ret (v := some (z_i y5)) dX8_ifDropped_27 ⟨rfl, Or.inl rfl⟩ rfl rfl h
    · replace h := h.1 c2
      refine z_iconst dX8_ifDropped_15 (by decide) ?_
      exact z_ret (v := some (z_i (-1))) dX8_ifDropped_16 ⟨rfl, Or.inl rfl⟩ rfl rfl h
set_option maxRecDepth 100000 in
theorem t_X8_ifTurned {sh : List z_C} {w : Nat → Int → Int} {Q : Option z_V → z_S → Prop} {x1 : Int} {x2 : Int} (hh0 : z_isTG sh 0) (h : (((f_X8_isGap w x1) = 0 → Q (some (z_i (-1))) (sh, w)) ∧ (¬ (f_X8_isGap w x1) = 0 → (((f_X8_isChange w x2) = 0 → Q (some (z_i (-1))) (sh, w)) ∧ (¬ (f_X8_isChange w x2) = 0 → ((0 : Int) ≤ x1 ∧ x1 < 24) ∧ (((w 9 x1) = 0 → ((0 : Int) ≤ x1 ∧ x1 < 24) ∧ ((0 : Int) ≤ x1 ∧ x1 < 24) ∧ ((0 : Int) ≤ x1 ∧ x1 < 24) ∧ ((0 : Int) ≤ x1 ∧ x1 < 24) ∧ z_CI mX8_ifTold [z_r 0, z_i (w 5 x1), z_i (w 6 x1), z_i (w 7 x1), z_i (w 8 x1), z_i x2] sh w (fun y10 w9 => Q (some (z_i y10)) (sh, w9))) ∧ (¬ (w 9 x1) = 0 → z_CV mX8_tryWithout [z_r 0, z_i x1] sh w (fun w11 => z_CI mX8_changeOnTrial [z_r 0, z_i x2] sh w11 (fun y13 w12 => Q (some (z_i y13)) (sh, w12)))))))))) : z_Sem mX8_ifTurned (sh.length, 0) 0 [(0, z_r 0), (1, z_i x1), (2, z_i x2)] [] (sh, w) Q := by
  refine z_aload_n 0 dX8_ifTurned_0 rfl rfl ?_
  refine z_iload_n 1 dX8_ifTurned_1 rfl rfl ?_
  refine z_callV (As := [z_i x1]) (rest := []) zmX8_isGap znX8_isGap zsX8_isGap (show vwCl[8]? = some (RX8, TX8, 9) from rfl) zlRX8_137 ⟨Nat.le_of_ble_eq_true rfl, Nat.le_of_ble_eq_true rfl⟩ dX8_ifTurned_2 hh0.1 rfl rfl (z_ai z_a0) (Nat.le_of_ble_eq_true rfl) (Nat.le_of_ble_eq_true rfl) ⟨Nat.le_refl _, Nat.le_refl _⟩ ?_
  refine t_X8_isGap hh0 ?_
  show z_Sem mX8_ifTurned (sh.length, 0) 5 [(0, z_r 0), (1, z_i x1), (2, z_i x2)] [z_i (f_X8_isGap w x1)] (sh, w) Q
  refine z_if_eq (tgt := 15) dX8_ifTurned_5 (by decide) (fun c1 => ?_) (fun c1 => ?_)
  · replace h := h.1 c1
    refine z_iconst dX8_ifTurned_15 (by decide) ?_
    exact z_ret (v := some (z_i (-1))) dX8_ifTurned_16 ⟨rfl, Or.inl rfl⟩ rfl rfl h
  · replace h := h.2 c1
    refine z_iload_n 2 dX8_ifTurned_8 rfl rfl ?_
    refine z_callS (As := [z_i x2]) (rest := []) zmX8_isChange ztX8_isChange zlRX8_339 ⟨Nat.le_of_ble_eq_true rfl, Nat.le_of_ble_eq_true rfl⟩ dX8_ifTurned_9 rfl rfl (z_ai z_a0) (Nat.le_of_ble_eq_true rfl) (Nat.le_of_ble_eq_true rfl) ⟨Nat.le_refl _, Nat.le_refl _⟩ ?_
    refine t_X8_isChange  ?_
    show z_Sem mX8_ifTurned (sh.length, 0) 12 [(0, z_r 0), (1, z_i x1), (2, z_i x2)] [z_i (f_X8_isChange w x2)] (sh, w) Q
    refine z_if_ne (tgt := 17) dX8_ifTurned_12 (by decide) (fun c2 => ?_) (fun c2 => ?_)
    · replace h := h.2 c2
      refine z_aload_n 0 dX8_ifTurned_17 rfl rfl ?_
      refine z_getR (r := 1) zfRX8_12 dX8_ifTurned_18 hh0.1 rfl ?_
      refine z_getR (r := 9) zfRX8_151 dX8_ifTurned_21 hh0.2.1.1 rfl ?_
      refine z_iload_n 1 dX8_ifTurned_24 rfl rfl ?_
      obtain ⟨q3, h⟩ := h
      refine z_zald dX8_ifTurned_25 hh0.2.1.2.2.2.2.2.2.2.2.1 q3 ?_
      refine z_if_eq (tgt := 40) dX8_ifTurned_26 (by decide) (fun c4 => ?_) (fun c4 => ?_)
      · replace h := h.1 c4
        refine z_aload_n 0 dX8_ifTurned_40 rfl rfl ?_
        refine z_aload_n 0 dX8_ifTurned_41 rfl rfl ?_
        refine z_getR (r := 1) zfRX8_12 dX8_ifTurned_42 hh0.1 rfl ?_
        refine z_getR (r := 5) zfRX8_195 dX8_ifTurned_45 hh0.2.1.1 rfl ?_
        refine z_iload_n 1 dX8_ifTurned_48 rfl rfl ?_
        obtain ⟨q5, h⟩ := h
        refine z_iald dX8_ifTurned_49 hh0.2.1.2.2.2.2.1 q5 ?_
        refine z_aload_n 0 dX8_ifTurned_50 rfl rfl ?_
        refine z_getR (r := 1) zfRX8_12 dX8_ifTurned_51 hh0.1 rfl ?_
        refine z_getR (r := 6) zfRX8_198 dX8_ifTurned_54 hh0.2.1.1 rfl ?_
        refine z_iload_n 1 dX8_ifTurned_57 rfl rfl ?_
        obtain ⟨q6, h⟩ := h
        refine z_iald dX8_ifTurned_58 hh0.2.1.2.2.2.2.2.1 q6 ?_
        refine z_aload_n 0 dX8_ifTurned_59 rfl rfl ?_
        refine z_getR (r := 1) zfRX8_12 dX8_ifTurned_60 hh0.1 rfl ?_
        refine z_getR (r := 7) zfRX8_204 dX8_ifTurned_63 hh0.2.1.1 rfl ?_
        refine z_iload_n 1 dX8_ifTurned_66 rfl rfl ?_
        obtain ⟨q7, h⟩ := h
        refine z_iald dX8_ifTurned_67 hh0.2.1.2.2.2.2.2.2.1 q7 ?_
        refine z_aload_n 0 dX8_ifTurned_68 rfl rfl ?_
        refine z_getR (r := 1) zfRX8_12 dX8_ifTurned_69 hh0.1 rfl ?_
        refine z_getR (r := 8) zfRX8_141 dX8_ifTurned_72 hh0.2.1.1 rfl ?_
        refine z_iload_n 1 dX8_ifTurned_75 rfl rfl ?_
        obtain ⟨q8, h⟩ := h
        refine z_iald dX8_ifTurned_76 hh0.2.1.2.2.2.2.2.2.2.1 q8 ?_
        refine z_iload_n 2 dX8_ifTurned_77 rfl rfl ?_
        refine z_callV (As := [z_i (w 5 x1), z_i (w 6 x1), z_i (w 7 x1), z_i (w 8 x1), z_i x2]) (rest := []) zmX8_ifTold znX8_ifTold zsX8_ifTold (show vwCl[8]? = some (RX8, TX8, 9) from rfl) zlRX8_349 ⟨Nat.le_of_ble_eq_true rfl, Nat.le_of_ble_eq_true rfl⟩ dX8_ifTurned_78 hh0.1 rfl rfl (z_ai (z_ai (z_ai (z_ai (z_ai z_a0))))) (Nat.le_of_ble_eq_true rfl) (Nat.le_of_ble_eq_true rfl) ⟨Nat.le_refl _, Nat.le_refl _⟩ (z_CIm h ?_)
        intro y10 w9 h
        show z_Sem mX8_ifTurned (sh.length, 0) 81 [(0, z_r 0), (1, z_i x1), (2, z_i x2)] [z_i y10] (sh, w9) Q
        exact z_ret (v := some (z_i y10)) dX8_ifTurned_81 ⟨rfl, Or.inl rfl⟩ rfl rfl h
      · replace h := h.2 c4
        refine z_aload_n 0 dX8_ifTurned_29 rfl rfl ?_
        refine z_iload_n 1 dX8_ifTurned_30 rfl rfl ?_
        refine z_callV (As := [z_i x1]) (rest := []) zmX8_tryWithout znX8_tryWithout zsX8_tryWithout (show vwCl[8]? = some (RX8, TX8, 9) from rfl) zlRX8_201 ⟨Nat.le_of_ble_eq_true rfl, Nat.le_of_ble_eq_true rfl⟩ dX8_ifTurned_31 hh0.1 rfl rfl (z_ai z_a0) (Nat.le_of_ble_eq_true rfl) (Nat.le_of_ble_eq_true rfl) ⟨Nat.le_refl _, Nat.le_refl _⟩ (z_CVm h ?_)
        intro w11 h
        show z_Sem mX8_ifTurned (sh.length, 0) 34 [(0, z_r 0), (1, z_i x1), (2, z_i x2)] [] (sh, w11) Q
        refine z_aload_n 0 dX8_ifTurned_34 rfl rfl ?_
        refine z_iload_n 2 dX8_ifTurned_35 rfl rfl ?_
        refine z_callV (As := [z_i x2]) (rest := []) zmX8_changeOnTrial znX8_changeOnTrial zsX8_changeOnTrial (show vwCl[8]? = some (RX8, TX8, 9) from rfl) zlRX8_346 ⟨Nat.le_of_ble_eq_true rfl, Nat.le_of_ble_eq_true rfl⟩ dX8_ifTurned_36 hh0.1 rfl rfl (z_ai z_a0) (Nat.le_of_ble_eq_true rfl) (Nat.le_of_ble_eq_true rfl) ⟨Nat.le_refl _, Nat.le_refl _⟩ (z_CIm h ?_)
        intro y13 w12 h
        show z_Sem mX8_ifTurned (sh.length, 0) 39 [(0, z_r 0), (1, z_i x1), (2, z_i x2)] [z_i y13] (sh, w12) Q
        exact z_ret (v := some (z_i y13)) dX8_ifTurned_39 ⟨rfl, Or.inl rfl⟩ rfl rfl h
    · replace h := h.1 c2
      refine z_iconst dX8_ifTurned_15 (by decide) ?_
      exact z_ret (v := some (z_i (-1))) dX8_ifTurned_16 ⟨rfl, Or.inl rfl⟩ rfl rfl h
set_option maxRecDepth 100000 in
theorem t_X8_ifPinned {sh : List z_C} {w : Nat → Int → Int} {Q : Option z_V → z_S → Prop} {x1 : Int} {x2 : Int} {x3 : Int} (hh0 : z_isTG sh 0) (h : (((f_X8_isEvent w x1) = 0 → Q (some (z_i (-1))) (sh, w)) ∧ (¬ (f_X8_isEvent w x1) = 0 → (((f_X8_isTime w x2) = 0 → Q (some (z_i (-1))) (sh, w)) ∧ (¬ (f_X8_isTime w x2) = 0 → (((f_X8_isChange w x3) = 0 → Q (some (z_i (-1))) (sh, w)) ∧ (¬ (f_X8_isChange w x3) = 0 → (s_X8_isPinnable w x1) ∧ (((f_X8_isPinnable w x1) = 0 → Q (some (z_i (-3))) (sh, w)) ∧ (¬ (f_X8_isPinnable w x1) = 0 → (s_X2_allows w 12 x1 x2) ∧ (((f_X2_allows w 12 x1 x2) = 0 → Q (some (z_i (-5))) (sh, w)) ∧ (¬ (f_X2_allows w 12 x1 x2) = 0 → z_CV mX2_copyBounds [z_r 18, z_r 12] sh w (fun w8 => z_CV mX2_addPin [z_r 18, z_i x1, z_i x2] sh w8 (fun w9 => z_CI mX8_changeOnTrial [z_r 0, z_i x3] sh w9 (fun y11 w10 => Q (some (z_i y11)) (sh, w10))))))))))))))) : z_Sem mX8_ifPinned (sh.length, 0) 0 [(0, z_r 0), (1, z_i x1), (2, z_i x2), (3, z_i x3)] [] (sh, w) Q := by
  refine z_aload_n 0 dX8_ifPinned_0 rfl rfl ?_
  refine z_iload_n 1 dX8_ifPinned_1 rfl rfl ?_
  refine z_callV (As := [z_i x1]) (rest := []) zmX8_isEvent znX8_isEvent zsX8_isEvent (show vwCl[8]? = some (RX8, TX8, 9) from rfl) zlRX8_163 ⟨Nat.le_of_ble_eq_true rfl, Nat.le_of_ble_eq_true rfl⟩ dX8_ifPinned_2 hh0.1 rfl rfl (z_ai z_a0) (Nat.le_of_ble_eq_true rfl) (Nat.le_of_ble_eq_true rfl) ⟨Nat.le_refl _, Nat.le_refl _⟩ ?_
  refine t_X8_isEvent hh0 ?_
  show z_Sem mX8_ifPinned (sh.length, 0) 5 [(0, z_r 0), (1, z_i x1), (2, z_i x2), (3, z_i x3)] [z_i (f_X8_isEvent w x1)] (sh, w) Q
  refine z_if_eq (tgt := 23) dX8_ifPinned_5 (by decide) (fun c1 => ?_) (fun c1 => ?_)
  · replace h := h.1 c1
    refine z_iconst dX8_ifPinned_23 (by decide) ?_
    exact z_ret (v := some (z_i (-1))) dX8_ifPinned_24 ⟨rfl, Or.inl rfl⟩ rfl rfl h
  · replace h := h.2 c1
    refine z_aload_n 0 dX8_ifPinned_8 rfl rfl ?_
    refine z_iload_n 2 dX8_ifPinned_9 rfl rfl ?_
    refine z_callV (As := [z_i x2]) (rest := []) zmX8_isTime znX8_isTime zsX8_isTime (show vwCl[8]? = some (RX8, TX8, 9) from rfl) zlRX8_166 ⟨Nat.le_of_ble_eq_true rfl, Nat.le_of_ble_eq_true rfl⟩ dX8_ifPinned_10 hh0.1 rfl rfl (z_ai z_a0) (Nat.le_of_ble_eq_true rfl) (Nat.le_of_ble_eq_true rfl) ⟨Nat.le_refl _, Nat.le_refl _⟩ ?_
    refine t_X8_isTime hh0 ?_
    show z_Sem mX8_ifPinned (sh.length, 0) 13 [(0, z_r 0), (1, z_i x1), (2, z_i x2), (3, z_i x3)] [z_i (f_X8_isTime w x2)] (sh, w) Q
    refine z_if_eq (tgt := 23) dX8_ifPinned_13 (by decide) (fun c2 => ?_) (fun c2 => ?_)
    · replace h := h.1 c2
      refine z_iconst dX8_ifPinned_23 (by decide) ?_
      exact z_ret (v := some (z_i (-1))) dX8_ifPinned_24 ⟨rfl, Or.inl rfl⟩ rfl rfl h
    · replace h := h.2 c2
      refine z_iload_n 3 dX8_ifPinned_16 rfl rfl ?_
      refine z_callS (As := [z_i x3]) (rest := []) zmX8_isChange ztX8_isChange zlRX8_339 ⟨Nat.le_of_ble_eq_true rfl, Nat.le_of_ble_eq_true rfl⟩ dX8_ifPinned_17 rfl rfl (z_ai z_a0) (Nat.le_of_ble_eq_true rfl) (Nat.le_of_ble_eq_true rfl) ⟨Nat.le_refl _, Nat.le_refl _⟩ ?_
      refine t_X8_isChange  ?_
      show z_Sem mX8_ifPinned (sh.length, 0) 20 [(0, z_r 0), (1, z_i x1), (2, z_i x2), (3, z_i x3)] [z_i (f_X8_isChange w x3)] (sh, w) Q
      refine z_if_ne (tgt := 25) dX8_ifPinned_20 (by decide) (fun c3 => ?_) (fun c3 => ?_)
      · replace h := h.2 c3
        refine z_aload_n 0 dX8_ifPinned_25 rfl rfl ?_
        refine z_iload_n 1 dX8_ifPinned_26 rfl rfl ?_
        obtain ⟨q4, h⟩ := h
        refine z_callV (As := [z_i x1]) (rest := []) zmX8_isPinnable znX8_isPinnable zsX8_isPinnable (show vwCl[8]? = some (RX8, TX8, 9) from rfl) zlRX8_169 ⟨Nat.le_of_ble_eq_true rfl, Nat.le_of_ble_eq_true rfl⟩ dX8_ifPinned_27 hh0.1 rfl rfl (z_ai z_a0) (Nat.le_of_ble_eq_true rfl) (Nat.le_of_ble_eq_true rfl) ⟨Nat.le_refl _, Nat.le_refl _⟩ ?_
        refine t_X8_isPinnable hh0 q4 ?_
        show z_Sem mX8_ifPinned (sh.length, 0) 30 [(0, z_r 0), (1, z_i x1), (2, z_i x2), (3, z_i x3)] [z_i (f_X8_isPinnable w x1)] (sh, w) Q
        refine z_if_ne (tgt := 36) dX8_ifPinned_30 (by decide) (fun c5 => ?_) (fun c5 => ?_)
        · replace h := h.2 c5
          refine z_aload_n 0 dX8_ifPinned_36 rfl rfl ?_
          refine z_getR (r := 12) zfRX8_19 dX8_ifPinned_37 hh0.1 rfl ?_
          refine z_iload_n 1 dX8_ifPinned_40 rfl rfl ?_
          refine z_iload_n 2 dX8_ifPinned_41 rfl rfl ?_
          obtain ⟨q6, h⟩ := h
          refine z_callV (As := [z_i x1, z_i x2]) (rest := []) zmX2_allows znX2_allows zsX2_allows (show vwCl[2]? = some (RX2, TX2, 7) from rfl) zlRX8_172 ⟨Nat.le_of_ble_eq_true rfl, Nat.le_of_ble_eq_true rfl⟩ dX8_ifPinned_42 hh0.2.2.1.1 rfl rfl (z_ai (z_ai z_a0)) (Nat.le_of_ble_eq_true rfl) (Nat.le_of_ble_eq_true rfl) ⟨Nat.le_refl _, Nat.le_refl _⟩ ?_
          refine t_X2_allows hh0.2.2.1 q6 ?_
          show z_Sem mX8_ifPinned (sh.length, 0) 45 [(0, z_r 0), (1, z_i x1), (2, z_i x2), (3, z_i x3)] [z_i (f_X2_allows w 12 x1 x2)] (sh, w) Q
          refine z_if_ne (tgt := 51) dX8_ifPinned_45 (by decide) (fun c7 => ?_) (fun c7 => ?_)
          · replace h := h.2 c7
            refine z_aload_n 0 dX8_ifPinned_51 rfl rfl ?_
            refine z_getR (r := 18) zfRX8_23 dX8_ifPinned_52 hh0.1 rfl ?_
            refine z_aload_n 0 dX8_ifPinned_55 rfl rfl ?_
            refine z_getR (r := 12) zfRX8_19 dX8_ifPinned_56 hh0.1 rfl ?_
            refine z_callV (As := [z_r 12]) (rest := []) zmX2_copyBounds znX2_copyBounds zsX2_copyBounds (show vwCl[2]? = some (RX2, TX2, 7) from rfl) zlRX8_308 ⟨Nat.le_of_ble_eq_true rfl, Nat.le_of_ble_eq_true rfl⟩ dX8_ifPinned_59 hh0.2.2.2.1.1 rfl rfl (z_ar z_a0) (Nat.le_of_ble_eq_true rfl) (Nat.le_of_ble_eq_true rfl) ⟨Nat.le_refl _, Nat.le_refl _⟩ (z_CVm h ?_)
            intro w8 h
            show z_Sem mX8_ifPinned (sh.length, 0) 62 [(0, z_r 0), (1, z_i x1), (2, z_i x2), (3, z_i x3)] [] (sh, w8) Q
            refine z_aload_n 0 dX8_ifPinned_62 rfl rfl ?_
            refine z_getR (r := 18) zfRX8_23 dX8_ifPinned_63 hh0.1 rfl ?_
            refine z_iload_n 1 dX8_ifPinned_66 rfl rfl ?_
            refine z_iload_n 2 dX8_ifPinned_67 rfl rfl ?_
            refine z_callV (As := [z_i x1, z_i x2]) (rest := []) zmX2_addPin znX2_addPin zsX2_addPin (show vwCl[2]? = some (RX2, TX2, 7) from rfl) zlRX8_312 ⟨Nat.le_of_ble_eq_true rfl, Nat.le_of_ble_eq_true rfl⟩ dX8_ifPinned_68 hh0.2.2.2.1.1 rfl rfl (z_ai (z_ai z_a0)) (Nat.le_of_ble_eq_true rfl) (Nat.le_of_ble_eq_true rfl) ⟨Nat.le_refl _, Nat.le_refl _⟩ (z_CVm h ?_)
            intro w9 h
            show z_Sem mX8_ifPinned (sh.length, 0) 71 [(0, z_r 0), (1, z_i x1), (2, z_i x2), (3, z_i x3)] [] (sh, w9) Q
            refine z_aload_n 0 dX8_ifPinned_71 rfl rfl ?_
            refine z_iload_n 3 dX8_ifPinned_72 rfl rfl ?_
            refine z_callV (As := [z_i x3]) (rest := []) zmX8_changeOnTrial znX8_changeOnTrial zsX8_changeOnTrial (show vwCl[8]? = some (RX8, TX8, 9) from rfl) zlRX8_346 ⟨Nat.le_of_ble_eq_true rfl, Nat.le_of_ble_eq_true rfl⟩ dX8_ifPinned_73 hh0.1 rfl rfl (z_ai z_a0) (Nat.le_of_ble_eq_true rfl) (Nat.le_of_ble_eq_true rfl) ⟨Nat.le_refl _, Nat.le_refl _⟩ (z_CIm h ?_)
            intro y11 w10 h
            show z_Sem mX8_ifPinned (sh.length, 0) 76 [(0, z_r 0), (1, z_i x1), (2, z_i x2), (3, z_i x3)] [z_i y11] (sh, w10) Q
            exact z_ret (v := some (z_i y11)) dX8_ifPinned_76 ⟨rfl, Or.inl rfl⟩ rfl rfl h
          · replace h := h.1 c7
            refine z_bipush dX8_ifPinned_48 (by decide) (by decide) ?_
            exact z_ret (v := some (z_i (-5))) dX8_ifPinned_50 ⟨rfl, Or.inl rfl⟩ rfl rfl h
        · replace h := h.1 c5
          refine z_bipush dX8_ifPinned_33 (by decide) (by decide) ?_
          exact z_ret (v := some (z_i (-3))) dX8_ifPinned_35 ⟨rfl, Or.inl rfl⟩ rfl rfl h
      · replace h := h.1 c3
        refine z_iconst dX8_ifPinned_23 (by decide) ?_
        exact z_ret (v := some (z_i (-1))) dX8_ifPinned_24 ⟨rfl, Or.inl rfl⟩ rfl rfl h
set_option maxRecDepth 100000 in
theorem t_X8_leastEnd {sh : List z_C} {w : Nat → Int → Int} {Q : Option z_V → z_S → Prop}  (hh0 : z_isTG sh 0) (h : z_CI mX2_greatestEarliest [z_r 12] sh w (fun y2 w1 => Q (some (z_i (f_J9_max_7cf53 w1 1 y2))) (sh, w1))) : z_Sem mX8_leastEnd (sh.length, 0) 0 [(0, z_r 0)] [] (sh, w) Q := by
  refine z_iconst dX8_leastEnd_0 (by decide) ?_
  refine z_aload_n 0 dX8_leastEnd_1 rfl rfl ?_
  refine z_getR (r := 12) zfRX8_19 dX8_leastEnd_2 hh0.1 rfl ?_
  refine z_callV (As := []) (rest := [z_i 1]) zmX2_greatestEarliest znX2_greatestEarliest zsX2_greatestEarliest (show vwCl[2]? = some (RX2, TX2, 7) from rfl) zlRX8_188 ⟨Nat.le_of_ble_eq_true rfl, Nat.le_of_ble_eq_true rfl⟩ dX8_leastEnd_5 hh0.2.2.1.1 rfl rfl z_a0 (Nat.le_of_ble_eq_true rfl) (Nat.le_of_ble_eq_true rfl) ⟨Nat.le_refl _, Nat.le_refl _⟩ (z_CIm h ?_)
  intro y2 w1 h
  show z_Sem mX8_leastEnd (sh.length, 0) 8 [(0, z_r 0)] [z_i y2, z_i 1] (sh, w1) Q
  refine z_callS (As := [z_i 1, z_i y2]) (rest := []) zmJ9_max_7cf53 ztJ9_max_7cf53 zlRX8_353 ⟨Nat.le_of_ble_eq_true rfl, Nat.le_of_ble_eq_true rfl⟩ dX8_leastEnd_8 rfl rfl (z_ai (z_ai z_a0)) (Nat.le_of_ble_eq_true rfl) (Nat.le_of_ble_eq_true rfl) ⟨Nat.le_refl _, Nat.le_refl _⟩ ?_
  refine t_J9_max_7cf53  ?_
  show z_Sem mX8_leastEnd (sh.length, 0) 11 [(0, z_r 0)] [z_i (f_J9_max_7cf53 w1 1 y2)] (sh, w1) Q
  exact z_ret (v := some (z_i (f_J9_max_7cf53 w1 1 y2))) dX8_leastEnd_11 ⟨rfl, Or.inl rfl⟩ rfl rfl h
set_option maxRecDepth 100000 in
theorem t_X8_slowest {sh : List z_C} {w : Nat → Int → Int} {Q : Option z_V → z_S → Prop}  (hh0 : z_isTG sh 0) (h : z_Sem mX8_slowest (sh.length, 0) 7 [(0, z_r 0), (1, z_i (-2)), (2, z_i 0), (3, z_i 0)] [] (sh, w) Q) : z_Sem mX8_slowest (sh.length, 0) 0 [(0, z_r 0)] [] (sh, w) Q := by
  refine z_bipush dX8_slowest_0 (by decide) (by decide) ?_
  refine z_istore_n (L' := [(1, z_i (-2)), (0, z_r 0)]) dX8_slowest_2 rfl (by decide) rfl ?_
  refine z_iconst dX8_slowest_3 (by decide) ?_
  refine z_istore_n (L' := [(2, z_i 0), (1, z_i (-2)), (0, z_r 0)]) dX8_slowest_4 rfl (by decide) rfl ?_
  refine z_iconst dX8_slowest_5 (by decide) ?_
  refine z_istore_n (L' := [(3, z_i 0), (2, z_i 0), (1, z_i (-2)), (0, z_r 0)]) dX8_slowest_6 rfl (by decide) rfl ?_
  refine z_sub (L' := [(0, z_r 0), (1, z_i (-2)), (2, z_i 0), (3, z_i 0)]) [3, 2, 1, 0] rfl ?_
  exact h
set_option maxRecDepth 100000 in
theorem t_X8_slowest_7 {sh : List z_C} {w : Nat → Int → Int} {Q : Option z_V → z_S → Prop} {x1 : Int} {x2 : Int} {x3 : Int} (hh0 : z_isTG sh 0) (h : (((w 1 11) ≤ x3 → Q (some (z_i x1)) (sh, w)) ∧ (¬ (w 1 11) ≤ x3 → ((0 : Int) ≤ x3 ∧ x3 < 24) ∧ (((w 9 x3) = 0 → (z_R (x3 + 1)) ∧ z_Sem mX8_slowest (sh.length, 0) 7 [(0, z_r 0), (1, z_i x1), (2, z_i x2), (3, z_i (x3 + 1))] [] (sh, w) Q) ∧ (¬ (w 9 x3) = 0 → z_CV mX8_tryWithout [z_r 0, z_i x3] sh w (fun w5 => z_CI mX2_greatestEarliest [z_r 18] sh w5 (fun y7 w6 => (z_R (x3 + 1)) ∧ z_Sem mX8_slowest (sh.length, 0) 7 [(0, z_r 0), (1, z_i (if x1 = (-2) then x3 else if x2 ≤ y7 then x1 else x3)), (2, z_i (if x1 = (-2) then y7 else if x2 ≤ y7 then x2 else y7)), (3, z_i (x3 + 1))] [] (sh, w6) Q))))))) : z_Sem mX8_slowest (sh.length, 0) 7 [(0, z_r 0), (1, z_i x1), (2, z_i x2), (3, z_i x3)] [] (sh, w) Q := by
  refine z_iload_n 3 dX8_slowest_7 rfl rfl ?_
  refine z_aload_n 0 dX8_slowest_8 rfl rfl ?_
  refine z_getR (r := 1) zfRX8_12 dX8_slowest_9 hh0.1 rfl ?_
  refine z_getI (ki := 11) zfRX8_96 dX8_slowest_12 hh0.2.1.1 rfl rfl ?_
  refine z_icmp_ge (tgt := 67) dX8_slowest_15 (by decide) (fun c1 => ?_) (fun c1 => ?_)
  · replace h := h.1 c1
    refine z_iload_n 1 dX8_slowest_67 rfl rfl ?_
    exact z_ret (v := some (z_i x1)) dX8_slowest_68 ⟨rfl, Or.inl rfl⟩ rfl rfl h
  · replace h := h.2 c1
    refine z_aload_n 0 dX8_slowest_18 rfl rfl ?_
    refine z_getR (r := 1) zfRX8_12 dX8_slowest_19 hh0.1 rfl ?_
    refine z_getR (r := 9) zfRX8_151 dX8_slowest_22 hh0.2.1.1 rfl ?_
    refine z_iload_n 3 dX8_slowest_25 rfl rfl ?_
    obtain ⟨q2, h⟩ := h
    refine z_zald dX8_slowest_26 hh0.2.1.2.2.2.2.2.2.2.2.1 q2 ?_
    refine z_if_eq (tgt := 61) dX8_slowest_27 (by decide) (fun c3 => ?_) (fun c3 => ?_)
    · replace h := h.1 c3
      obtain ⟨q4, h⟩ := h
      refine z_iinc (L' := [(3, z_i (x3 + 1)), (0, z_r 0), (1, z_i x1), (2, z_i x2)]) 3 dX8_slowest_61 rfl (by decide) rfl q4 ?_
      refine z_goto (tgt := 7) dX8_slowest_64 (by decide) ?_
      refine z_sub (L' := [(0, z_r 0), (1, z_i x1), (2, z_i x2), (3, z_i (x3 + 1))]) [1, 2, 3, 0] rfl ?_
      exact h
    · replace h := h.2 c3
      refine z_aload_n 0 dX8_slowest_30 rfl rfl ?_
      refine z_iload_n 3 dX8_slowest_31 rfl rfl ?_
      refine z_callV (As := [z_i x3]) (rest := []) zmX8_tryWithout znX8_tryWithout zsX8_tryWithout (show vwCl[8]? = some (RX8, TX8, 9) from rfl) zlRX8_201 ⟨Nat.le_of_ble_eq_true rfl, Nat.le_of_ble_eq_true rfl⟩ dX8_slowest_32 hh0.1 rfl rfl (z_ai z_a0) (Nat.le_of_ble_eq_true rfl) (Nat.le_of_ble_eq_true rfl) ⟨Nat.le_refl _, Nat.le_refl _⟩ (z_CVm h ?_)
      intro w5 h
      show z_Sem mX8_slowest (sh.length, 0) 35 [(0, z_r 0), (1, z_i x1), (2, z_i x2), (3, z_i x3)] [] (sh, w5) Q
      refine z_aload_n 0 dX8_slowest_35 rfl rfl ?_
      refine z_getR (r := 18) zfRX8_23 dX8_slowest_36 hh0.1 rfl ?_
      refine z_callV (As := []) (rest := []) zmX2_greatestEarliest znX2_greatestEarliest zsX2_greatestEarliest (show vwCl[2]? = some (RX2, TX2, 7) from rfl) zlRX8_188 ⟨Nat.le_of_ble_eq_true rfl, Nat.le_of_ble_eq_true rfl⟩ dX8_slowest_39 hh0.2.2.2.1.1 rfl rfl z_a0 (Nat.le_of_ble_eq_true rfl) (Nat.le_of_ble_eq_true rfl) ⟨Nat.le_refl _, Nat.le_refl _⟩ (z_CIm h ?_)
      intro y7 w6 h
      show z_Sem mX8_slowest (sh.length, 0) 42 [(0, z_r 0), (1, z_i x1), (2, z_i x2), (3, z_i x3)] [z_i y7] (sh, w6) Q
      refine z_istore (L' := [(4, z_i y7), (0, z_r 0), (1, z_i x1), (2, z_i x2), (3, z_i x3)]) dX8_slowest_42 (by decide) rfl ?_
      refine z_iload_n 2 dX8_slowest_44 rfl rfl ?_
      refine z_bipush dX8_slowest_45 (by decide) (by decide) ?_
      suffices hJ8 : z_Sem mX8_slowest (sh.length, 0) 61 [(0, z_r 0), (1, z_i (if x1 = (-2) then x3 else if x2 ≤ y7 then x1 else x3)), (2, z_i (if x1 = (-2) then y7 else if x2 ≤ y7 then x2 else y7)), (3, z_i x3)] [] (sh, w6) Q by
        refine z_icmp_eq (tgt := 56) dX8_slowest_47 (by decide) (fun c9 => ?_) (fun c9 => ?_)
        · skip
          refine z_iload_n 4 dX8_slowest_56 rfl rfl ?_
          refine z_istore_n (L' := [(1, z_i x3), (4, z_i y7), (0, z_r 0), (2, z_i x2), (3, z_i x3)]) dX8_slowest_57 rfl (by decide) rfl ?_
          refine z_iload 1 dX8_slowest_58 rfl ?_
          refine z_istore_n (L' := [(2, z_i y7), (1, z_i x3), (4, z_i y7), (0, z_r 0), (3, z_i x3)]) dX8_slowest_60 rfl (by decide) rfl ?_
          refine z_sub (L' := [(0, z_r 0), (1, z_i x3), (2, z_i y7), (3, z_i x3)]) [3, 1, 0, 4] rfl ?_
          simp only [if_pos c9] at hJ8
          exact hJ8
        · skip
          refine z_iload 0 dX8_slowest_50 rfl ?_
          refine z_iload_n 3 dX8_slowest_52 rfl rfl ?_
          suffices hJ12 : z_Sem mX8_slowest (sh.length, 0) 61 [(0, z_r 0), (1, z_i (if x2 ≤ y7 then x1 else x3)), (2, z_i (if x2 ≤ y7 then x2 else y7)), (3, z_i x3)] [] (sh, w6) Q by
            refine z_icmp_ge (tgt := 61) dX8_slowest_53 (by decide) (fun c13 => ?_) (fun c13 => ?_)
            · skip
              refine z_sub (L' := [(0, z_r 0), (1, z_i x1), (2, z_i x2), (3, z_i x3)]) [1, 2, 3, 4] rfl ?_
              simp only [if_pos c13] at hJ12
              exact hJ12
            · skip
              refine z_iload_n 4 dX8_slowest_56 rfl rfl ?_
              refine z_istore_n (L' := [(1, z_i x3), (4, z_i y7), (0, z_r 0), (2, z_i x2), (3, z_i x3)]) dX8_slowest_57 rfl (by decide) rfl ?_
              refine z_iload 1 dX8_slowest_58 rfl ?_
              refine z_istore_n (L' := [(2, z_i y7), (1, z_i x3), (4, z_i y7), (0, z_r 0), (3, z_i x3)]) dX8_slowest_60 rfl (by decide) rfl ?_
              refine z_sub (L' := [(0, z_r 0), (1, z_i x3), (2, z_i y7), (3, z_i x3)]) [3, 1, 0, 4] rfl ?_
              simp only [if_neg c13] at hJ12
              exact hJ12
          simp only [if_neg c9] at hJ8
          exact hJ8
      obtain ⟨q16, h⟩ := h
      refine z_iinc (L' := [(3, z_i (x3 + 1)), (0, z_r 0), (1, z_i (if x1 = (-2) then x3 else if x2 ≤ y7 then x1 else x3)), (2, z_i (if x1 = (-2) then y7 else if x2 ≤ y7 then x2 else y7))]) 3 dX8_slowest_61 rfl (by decide) rfl q16 ?_
      refine z_goto (tgt := 7) dX8_slowest_64 (by decide) ?_
      refine z_sub (L' := [(0, z_r 0), (1, z_i (if x1 = (-2) then x3 else if x2 ≤ y7 then x1 else x3)), (2, z_i (if x1 = (-2) then y7 else if x2 ≤ y7 then x2 else y7)), (3, z_i (x3 + 1))]) [1, 2, 3, 0] rfl ?_
      exact h
def f_X8_log (w : Nat → Int → Int) (x1 : Int) (x2 : Int) : Int := if x1 < 0 then -1 else if x2 < 0 then -1 else if x2 ≤ 2 then (if (w 10 2) ≤ x1 then -2 else f_X1_part w 10 x1 x2) else -1
def s_X8_log (w : Nat → Int → Int) (x1 : Int) (x2 : Int) : Prop := (¬ x1 < 0 → (¬ x2 < 0 → (x2 ≤ 2 → (¬ (w 10 2) ≤ x1 → (s_X1_part w 10 x1 x2) ∧ True) ∧ True) ∧ True) ∧ True) ∧ True
set_option maxRecDepth 100000 in
theorem t_X8_log {sh : List z_C} {w : Nat → Int → Int} {Q : Option z_V → z_S → Prop} {x1 : Int} {x2 : Int} (hh0 : z_isTG sh 0) (hs : s_X8_log w x1 x2) (h : Q (some (z_i (f_X8_log w x1 x2))) (sh, w)) : z_Sem mX8_log (sh.length, 0) 0 [(0, z_r 0), (1, z_i x1), (2, z_i x2)] [] (sh, w) Q := by
  unfold f_X8_log at h
  unfold s_X8_log at hs
  refine z_iload_n 1 dX8_log_0 rfl rfl ?_
  obtain ⟨m12, hs⟩ := hs
  refine z_if_lt (tgt := 13) dX8_log_1 (by decide) (fun c1 => ?_) (fun c1 => ?_)
  · skip
    rw [if_pos c1] at h
    refine z_iconst dX8_log_13 (by decide) ?_
    exact z_ret (v := some (z_i (-1))) dX8_log_14 ⟨rfl, Or.inl rfl⟩ rfl rfl h
  · skip
    rw [if_neg c1] at h
    replace hs := m12 c1
    refine z_iload_n 2 dX8_log_4 rfl rfl ?_
    obtain ⟨m11, hs⟩ := hs
    refine z_if_lt (tgt := 13) dX8_log_5 (by decide) (fun c2 => ?_) (fun c2 => ?_)
    · skip
      rw [if_pos c2] at h
      refine z_iconst dX8_log_13 (by decide) ?_
      exact z_ret (v := some (z_i (-1))) dX8_log_14 ⟨rfl, Or.inl rfl⟩ rfl rfl h
    · skip
      rw [if_neg c2] at h
      replace hs := m11 c2
      refine z_iload_n 2 dX8_log_8 rfl rfl ?_
      refine z_iconst dX8_log_9 (by decide) ?_
      obtain ⟨m10, hs⟩ := hs
      refine z_icmp_le (tgt := 15) dX8_log_10 (by decide) (fun c3 => ?_) (fun c3 => ?_)
      · skip
        rw [if_pos c3] at h
        replace hs := m10 c3
        refine z_iload_n 1 dX8_log_15 rfl rfl ?_
        refine z_aload_n 0 dX8_log_16 rfl rfl ?_
        refine z_getR (r := 1) zfRX8_12 dX8_log_17 hh0.1 rfl ?_
        refine z_getR (r := 10) zfRX8_124 dX8_log_20 hh0.2.1.1 rfl ?_
        refine z_getI (ki := 2) zfRX8_254 dX8_log_23 hh0.2.1.2.2.2.2.2.2.2.2.2.1 rfl rfl ?_
        obtain ⟨m6, hs⟩ := hs
        suffices hJ4 : z_Sem mX8_log (sh.length, 0) 46 [] [z_i (if (w 10 2) ≤ x1 then -2 else f_X1_part w 10 x1 x2)] (sh, w) Q by
          refine z_icmp_ge (tgt := 44) dX8_log_26 (by decide) (fun c5 => ?_) (fun c5 => ?_)
          · skip
            refine z_bipush dX8_log_44 (by decide) (by decide) ?_
            refine z_sub (L' := []) [] rfl ?_
            simp only [if_pos c5] at hJ4
            exact hJ4
          · skip
            have ho8 := m6 c5
            refine z_aload_n 0 dX8_log_29 rfl rfl ?_
            refine z_getR (r := 1) zfRX8_12 dX8_log_30 hh0.1 rfl ?_
            refine z_getR (r := 10) zfRX8_124 dX8_log_33 hh0.2.1.1 rfl ?_
            refine z_iload_n 1 dX8_log_36 rfl rfl ?_
            refine z_iload_n 2 dX8_log_37 rfl rfl ?_
            obtain ⟨q9, ho8⟩ := ho8
            refine z_callV (As := [z_i x1, z_i x2]) (rest := []) zmX1_part znX1_part zsX1_part (show vwCl[1]? = some (RX1, TX1, 3) from rfl) zlRX8_356 ⟨Nat.le_of_ble_eq_true rfl, Nat.le_of_ble_eq_true rfl⟩ dX8_log_38 hh0.2.1.2.2.2.2.2.2.2.2.2.1 rfl rfl (z_ai (z_ai z_a0)) (Nat.le_of_ble_eq_true rfl) (Nat.le_of_ble_eq_true rfl) ⟨Nat.le_refl _, Nat.le_refl _⟩ ?_
            refine t_X1_part hh0.2.1.2.2.2.2.2.2.2.2.2 q9 ?_
            show z_Sem mX8_log (sh.length, 0) 41 [(0, z_r 0), (1, z_i x1), (2, z_i x2)] [z_i (f_X1_part w 10 x1 x2)] (sh, w) Q
            refine z_goto (tgt := 46) dX8_log_41 (by decide) ?_
            refine z_sub (L' := []) [] rfl ?_
            simp only [if_neg c5] at hJ4
            exact hJ4
        exact z_ret (v := some (z_i (if (w 10 2) ≤ x1 then -2 else f_X1_part w 10 x1 x2))) dX8_log_46 ⟨rfl, Or.inl rfl⟩ rfl rfl h
      · skip
        rw [if_neg c3] at h
        refine z_iconst dX8_log_13 (by decide) ?_
        exact z_ret (v := some (z_i (-1))) dX8_log_14 ⟨rfl, Or.inl rfl⟩ rfl rfl h
set_option maxRecDepth 100000 in
theorem t_X8_tightShare {sh : List z_C} {w : Nat → Int → Int} {Q : Option z_V → z_S → Prop}  (hh0 : z_isTG sh 0) (h : z_CI mX3_countOn [z_r 1] sh w (fun y2 w1 => ((y2 = 0 → Q (some (z_f (FP.fconst0))) (sh, w1)) ∧ (¬ y2 = 0 → z_CI mX8_countTight [z_r 0] sh w1 (fun y5 w4 => (vf_n32 (FP.fdiv (FP.i2f (Int32.ofInt y5)) (FP.i2f (Int32.ofInt y2)))) ∧ Q (some (z_f (FP.fdiv (FP.i2f (Int32.ofInt y5)) (FP.i2f (Int32.ofInt y2))))) (sh, w4)))))) : z_Sem mX8_tightShare (sh.length, 0) 0 [(0, z_r 0)] [] (sh, w) Q := by
  refine z_aload_n 0 dX8_tightShare_0 rfl rfl ?_
  refine z_getR (r := 1) zfRX8_12 dX8_tightShare_1 hh0.1 rfl ?_
  refine z_callV (As := []) (rest := []) zmX3_countOn znX3_countOn zsX3_countOn (show vwCl[3]? = some (RX3, TX3, 12) from rfl) zlRX8_239 ⟨Nat.le_of_ble_eq_true rfl, Nat.le_of_ble_eq_true rfl⟩ dX8_tightShare_4 hh0.2.1.1 rfl rfl z_a0 (Nat.le_of_ble_eq_true rfl) (Nat.le_of_ble_eq_true rfl) ⟨Nat.le_refl _, Nat.le_refl _⟩ (z_CIm h ?_)
  intro y2 w1 h
  show z_Sem mX8_tightShare (sh.length, 0) 7 [(0, z_r 0)] [z_i y2] (sh, w1) Q
  refine z_istore_n (L' := [(1, z_i y2), (0, z_r 0)]) dX8_tightShare_7 rfl (by decide) rfl ?_
  refine z_iload_n 0 dX8_tightShare_8 rfl rfl ?_
  refine z_if_ne (tgt := 16) dX8_tightShare_9 (by decide) (fun c3 => ?_) (fun c3 => ?_)
  · replace h := h.2 c3
    refine z_aload_n 1 dX8_tightShare_16 rfl rfl ?_
    refine z_callV (As := []) (rest := []) zmX8_countTight znX8_countTight zsX8_countTight (show vwCl[8]? = some (RX8, TX8, 9) from rfl) zlRX8_245 ⟨Nat.le_of_ble_eq_true rfl, Nat.le_of_ble_eq_true rfl⟩ dX8_tightShare_17 hh0.1 rfl rfl z_a0 (Nat.le_of_ble_eq_true rfl) (Nat.le_of_ble_eq_true rfl) ⟨Nat.le_refl _, Nat.le_refl _⟩ (z_CIm h ?_)
    intro y5 w4 h
    show z_Sem mX8_tightShare (sh.length, 0) 20 [(1, z_i y2), (0, z_r 0)] [z_i y5] (sh, w4) Q
    refine z_i2f dX8_tightShare_20 ?_
    refine z_iload_n 0 dX8_tightShare_21 rfl rfl ?_
    refine z_i2f dX8_tightShare_22 ?_
    obtain ⟨q6, h⟩ := h
    refine z_fdiv dX8_tightShare_23 q6 ?_
    exact z_ret (v := some (z_f (FP.fdiv (FP.i2f (Int32.ofInt y5)) (FP.i2f (Int32.ofInt y2))))) dX8_tightShare_24 ⟨rfl, rfl⟩ rfl rfl h
  · replace h := h.1 c3
    refine z_fconst0 dX8_tightShare_12 ?_
    refine z_goto (tgt := 24) dX8_tightShare_13 (by decide) ?_
    exact z_ret (v := some (z_f (FP.fconst0))) dX8_tightShare_24 ⟨rfl, rfl⟩ rfl rfl h
set_option maxRecDepth 100000 in
theorem t_X8_meanRoom {sh : List z_C} {w : Nat → Int → Int} {Q : Option z_V → z_S → Prop}  (hh0 : z_isTG sh 0) (h : (((w 1 10) = 0 → Q (some (z_d (FP.dconst0))) (sh, w)) ∧ (¬ (w 1 10) = 0 → z_CI mX2_room [z_r 12] sh w (fun y3 w2 => (vf_n64 (FP.ddiv (FP.i2d (Int32.ofInt y3)) (FP.i2d (Int32.ofInt (w2 1 10))))) ∧ Q (some (z_d (FP.ddiv (FP.i2d (Int32.ofInt y3)) (FP.i2d (Int32.ofInt (w2 1 10)))))) (sh, w2))))) : z_Sem mX8_meanRoom (sh.length, 0) 0 [(0, z_r 0)] [] (sh, w) Q := by
  refine z_aload_n 0 dX8_meanRoom_0 rfl rfl ?_
  refine z_getR (r := 1) zfRX8_12 dX8_meanRoom_1 hh0.1 rfl ?_
  refine z_getI (ki := 10) zfRX8_102 dX8_meanRoom_4 hh0.2.1.1 rfl rfl ?_
  refine z_if_ne (tgt := 14) dX8_meanRoom_7 (by decide) (fun c1 => ?_) (fun c1 => ?_)
  · replace h := h.2 c1
    refine z_aload_n 0 dX8_meanRoom_14 rfl rfl ?_
    refine z_getR (r := 12) zfRX8_19 dX8_meanRoom_15 hh0.1 rfl ?_
    refine z_callV (As := []) (rest := []) zmX2_room znX2_room zsX2_room (show vwCl[2]? = some (RX2, TX2, 7) from rfl) zlRX8_214 ⟨Nat.le_of_ble_eq_true rfl, Nat.le_of_ble_eq_true rfl⟩ dX8_meanRoom_18 hh0.2.2.1.1 rfl rfl z_a0 (Nat.le_of_ble_eq_true rfl) (Nat.le_of_ble_eq_true rfl) ⟨Nat.le_refl _, Nat.le_refl _⟩ (z_CIm h ?_)
    intro y3 w2 h
    show z_Sem mX8_meanRoom (sh.length, 0) 21 [(0, z_r 0)] [z_i y3] (sh, w2) Q
    refine z_i2d dX8_meanRoom_21 ?_
    refine z_aload_n 0 dX8_meanRoom_22 rfl rfl ?_
    refine z_getR (r := 1) zfRX8_12 dX8_meanRoom_23 hh0.1 rfl ?_
    refine z_getI (ki := 10) zfRX8_102 dX8_meanRoom_26 hh0.2.1.1 rfl rfl ?_
    refine z_i2d dX8_meanRoom_29 ?_
    obtain ⟨q4, h⟩ := h
    refine z_ddiv dX8_meanRoom_30 q4 ?_
    exact z_ret (v := some (z_d (FP.ddiv (FP.i2d (Int32.ofInt y3)) (FP.i2d (Int32.ofInt (w2 1 10)))))) dX8_meanRoom_31 ⟨rfl, rfl⟩ rfl rfl h
  · replace h := h.1 c1
    refine z_dconst0 dX8_meanRoom_10 ?_
    refine z_goto (tgt := 31) dX8_meanRoom_11 (by decide) ?_
    exact z_ret (v := some (z_d (FP.dconst0))) dX8_meanRoom_31 ⟨rfl, rfl⟩ rfl rfl h
set_option maxRecDepth 100000 in
theorem t_X8_listLength {sh : List z_C} {w : Nat → Int → Int} {Q : Option z_V → z_S → Prop}  (hh0 : z_isTG sh 0) (h : z_CV mX7_writeList [z_r 159, z_r 1, z_r 12] sh w (fun w1 => Q (some (z_i (w1 159 1))) (sh, w1))) : z_Sem mX8_listLength (sh.length, 0) 0 [(0, z_r 0)] [] (sh, w) Q := by
  refine z_aload_n 0 dX8_listLength_0 rfl rfl ?_
  refine z_getR (r := 159) zfRX8_55 dX8_listLength_1 hh0.1 rfl ?_
  refine z_aload_n 0 dX8_listLength_4 rfl rfl ?_
  refine z_getR (r := 1) zfRX8_12 dX8_listLength_5 hh0.1 rfl ?_
  refine z_aload_n 0 dX8_listLength_8 rfl rfl ?_
  refine z_getR (r := 12) zfRX8_19 dX8_listLength_9 hh0.1 rfl ?_
  refine z_callV (As := [z_r 1, z_r 12]) (rest := []) zmX7_writeList znX7_writeList zsX7_writeList (show vwCl[7]? = some (RX7, TX7, 2) from rfl) zlRX8_359 ⟨Nat.le_of_ble_eq_true rfl, Nat.le_of_ble_eq_true rfl⟩ dX8_listLength_12 hh0.2.2.2.2.2.2.2.2.1 rfl rfl (z_ar (z_ar z_a0)) (Nat.le_of_ble_eq_true rfl) (Nat.le_of_ble_eq_true rfl) ⟨Nat.le_refl _, Nat.le_refl _⟩ (z_CVm h ?_)
  intro w1 h
  show z_Sem mX8_listLength (sh.length, 0) 15 [(0, z_r 0)] [] (sh, w1) Q
  refine z_aload_n 0 dX8_listLength_15 rfl rfl ?_
  refine z_getR (r := 159) zfRX8_55 dX8_listLength_16 hh0.1 rfl ?_
  refine z_getI (ki := 1) zfRX8_363 dX8_listLength_19 hh0.2.2.2.2.2.2.2.2.1 rfl rfl ?_
  exact z_ret (v := some (z_i (w1 159 1))) dX8_listLength_22 ⟨rfl, Or.inl rfl⟩ rfl rfl h
set_option maxRecDepth 100000 in
theorem t_X8_listByte {sh : List z_C} {w : Nat → Int → Int} {Q : Option z_V → z_S → Prop} {x1 : Int} (hh0 : z_isTG sh 0) (h : ((0 ≤ x1 → z_CV mX7_writeList [z_r 159, z_r 1, z_r 12] sh w (fun w2 => (s_X7_byteAt w2 x1) ∧ Q (some (z_i (f_X7_byteAt w2 x1))) (sh, w2))) ∧ (¬ 0 ≤ x1 → Q (some (z_i (-1))) (sh, w)))) : z_Sem mX8_listByte (sh.length, 0) 0 [(0, z_r 0), (1, z_i x1)] [] (sh, w) Q := by
  refine z_iload_n 1 dX8_listByte_0 rfl rfl ?_
  refine z_if_ge (tgt := 6) dX8_listByte_1 (by decide) (fun c1 => ?_) (fun c1 => ?_)
  · replace h := h.1 c1
    refine z_aload_n 0 dX8_listByte_6 rfl rfl ?_
    refine z_getR (r := 159) zfRX8_55 dX8_listByte_7 hh0.1 rfl ?_
    refine z_aload_n 0 dX8_listByte_10 rfl rfl ?_
    refine z_getR (r := 1) zfRX8_12 dX8_listByte_11 hh0.1 rfl ?_
    refine z_aload_n 0 dX8_listByte_14 rfl rfl ?_
    refine z_getR (r := 12) zfRX8_19 dX8_listByte_15 hh0.1 rfl ?_
    refine z_callV (As := [z_r 1, z_r 12]) (rest := []) zmX7_writeList znX7_writeList zsX7_writeList (show vwCl[7]? = some (RX7, TX7, 2) from rfl) zlRX8_359 ⟨Nat.le_of_ble_eq_true rfl, Nat.le_of_ble_eq_true rfl⟩ dX8_listByte_18 hh0.2.2.2.2.2.2.2.2.1 rfl rfl (z_ar (z_ar z_a0)) (Nat.le_of_ble_eq_true rfl) (Nat.le_of_ble_eq_true rfl) ⟨Nat.le_refl _, Nat.le_refl _⟩ (z_CVm h ?_)
    intro w2 h
    show z_Sem mX8_listByte (sh.length, 0) 21 [(0, z_r 0), (1, z_i x1)] [] (sh, w2) Q
    refine z_aload_n 0 dX8_listByte_21 rfl rfl ?_
    refine z_getR (r := 159) zfRX8_55 dX8_listByte_22 hh0.1 rfl ?_
    refine z_iload_n 1 dX8_listByte_25 rfl rfl ?_
    obtain ⟨q3, h⟩ := h
    refine z_callV (As := [z_i x1]) (rest := []) zmX7_byteAt znX7_byteAt zsX7_byteAt (show vwCl[7]? = some (RX7, TX7, 2) from rfl) zlRX8_364 ⟨Nat.le_of_ble_eq_true rfl, Nat.le_of_ble_eq_true rfl⟩ dX8_listByte_26 hh0.2.2.2.2.2.2.2.2.1 rfl rfl (z_ai z_a0) (Nat.le_of_ble_eq_true rfl) (Nat.le_of_ble_eq_true rfl) ⟨Nat.le_refl _, Nat.le_refl _⟩ ?_
    refine t_X7_byteAt hh0.2.2.2.2.2.2.2.2 q3 ?_
    show z_Sem mX8_listByte (sh.length, 0) 29 [(0, z_r 0), (1, z_i x1)] [z_i (f_X7_byteAt w2 x1)] (sh, w2) Q
    exact z_ret (v := some (z_i (f_X7_byteAt w2 x1))) dX8_listByte_29 ⟨rfl, Or.inl rfl⟩ rfl rfl h
  · replace h := h.2 c1
    refine z_iconst dX8_listByte_4 (by decide) ?_
    exact z_ret (v := some (z_i (-1))) dX8_listByte_5 ⟨rfl, Or.inl rfl⟩ rfl rfl h
set_option maxRecDepth 100000 in
theorem t_X8_setupLength {sh : List z_C} {w : Nat → Int → Int} {Q : Option z_V → z_S → Prop}  (hh0 : z_isTG sh 0) (h : z_CV mX7_writeSetup [z_r 159, z_r 1] sh w (fun w1 => Q (some (z_i (w1 159 1))) (sh, w1))) : z_Sem mX8_setupLength (sh.length, 0) 0 [(0, z_r 0)] [] (sh, w) Q := by
  refine z_aload_n 0 dX8_setupLength_0 rfl rfl ?_
  refine z_getR (r := 159) zfRX8_55 dX8_setupLength_1 hh0.1 rfl ?_
  refine z_aload_n 0 dX8_setupLength_4 rfl rfl ?_
  refine z_getR (r := 1) zfRX8_12 dX8_setupLength_5 hh0.1 rfl ?_
  refine z_callV (As := [z_r 1]) (rest := []) zmX7_writeSetup znX7_writeSetup zsX7_writeSetup (show vwCl[7]? = some (RX7, TX7, 2) from rfl) zlRX8_367 ⟨Nat.le_of_ble_eq_true rfl, Nat.le_of_ble_eq_true rfl⟩ dX8_setupLength_8 hh0.2.2.2.2.2.2.2.2.1 rfl rfl (z_ar z_a0) (Nat.le_of_ble_eq_true rfl) (Nat.le_of_ble_eq_true rfl) ⟨Nat.le_refl _, Nat.le_refl _⟩ (z_CVm h ?_)
  intro w1 h
  show z_Sem mX8_setupLength (sh.length, 0) 11 [(0, z_r 0)] [] (sh, w1) Q
  refine z_aload_n 0 dX8_setupLength_11 rfl rfl ?_
  refine z_getR (r := 159) zfRX8_55 dX8_setupLength_12 hh0.1 rfl ?_
  refine z_getI (ki := 1) zfRX8_363 dX8_setupLength_15 hh0.2.2.2.2.2.2.2.2.1 rfl rfl ?_
  exact z_ret (v := some (z_i (w1 159 1))) dX8_setupLength_18 ⟨rfl, Or.inl rfl⟩ rfl rfl h
set_option maxRecDepth 100000 in
theorem t_X8_setupByte {sh : List z_C} {w : Nat → Int → Int} {Q : Option z_V → z_S → Prop} {x1 : Int} (hh0 : z_isTG sh 0) (h : ((0 ≤ x1 → z_CV mX7_writeSetup [z_r 159, z_r 1] sh w (fun w2 => (s_X7_byteAt w2 x1) ∧ Q (some (z_i (f_X7_byteAt w2 x1))) (sh, w2))) ∧ (¬ 0 ≤ x1 → Q (some (z_i (-1))) (sh, w)))) : z_Sem mX8_setupByte (sh.length, 0) 0 [(0, z_r 0), (1, z_i x1)] [] (sh, w) Q := by
  refine z_iload_n 1 dX8_setupByte_0 rfl rfl ?_
  refine z_if_ge (tgt := 6) dX8_setupByte_1 (by decide) (fun c1 => ?_) (fun c1 => ?_)
  · replace h := h.1 c1
    refine z_aload_n 0 dX8_setupByte_6 rfl rfl ?_
    refine z_getR (r := 159) zfRX8_55 dX8_setupByte_7 hh0.1 rfl ?_
    refine z_aload_n 0 dX8_setupByte_10 rfl rfl ?_
    refine z_getR (r := 1) zfRX8_12 dX8_setupByte_11 hh0.1 rfl ?_
    refine z_callV (As := [z_r 1]) (rest := []) zmX7_writeSetup znX7_writeSetup zsX7_writeSetup (show vwCl[7]? = some (RX7, TX7, 2) from rfl) zlRX8_367 ⟨Nat.le_of_ble_eq_true rfl, Nat.le_of_ble_eq_true rfl⟩ dX8_setupByte_14 hh0.2.2.2.2.2.2.2.2.1 rfl rfl (z_ar z_a0) (Nat.le_of_ble_eq_true rfl) (Nat.le_of_ble_eq_true rfl) ⟨Nat.le_refl _, Nat.le_refl _⟩ (z_CVm h ?_)
    intro w2 h
    show z_Sem mX8_setupByte (sh.length, 0) 17 [(0, z_r 0), (1, z_i x1)] [] (sh, w2) Q
    refine z_aload_n 0 dX8_setupByte_17 rfl rfl ?_
    refine z_getR (r := 159) zfRX8_55 dX8_setupByte_18 hh0.1 rfl ?_
    refine z_iload_n 1 dX8_setupByte_21 rfl rfl ?_
    obtain ⟨q3, h⟩ := h
    refine z_callV (As := [z_i x1]) (rest := []) zmX7_byteAt znX7_byteAt zsX7_byteAt (show vwCl[7]? = some (RX7, TX7, 2) from rfl) zlRX8_364 ⟨Nat.le_of_ble_eq_true rfl, Nat.le_of_ble_eq_true rfl⟩ dX8_setupByte_22 hh0.2.2.2.2.2.2.2.2.1 rfl rfl (z_ai z_a0) (Nat.le_of_ble_eq_true rfl) (Nat.le_of_ble_eq_true rfl) ⟨Nat.le_refl _, Nat.le_refl _⟩ ?_
    refine t_X7_byteAt hh0.2.2.2.2.2.2.2.2 q3 ?_
    show z_Sem mX8_setupByte (sh.length, 0) 25 [(0, z_r 0), (1, z_i x1)] [z_i (f_X7_byteAt w2 x1)] (sh, w2) Q
    exact z_ret (v := some (z_i (f_X7_byteAt w2 x1))) dX8_setupByte_25 ⟨rfl, Or.inl rfl⟩ rfl rfl h
  · replace h := h.2 c1
    refine z_iconst dX8_setupByte_4 (by decide) ?_
    exact z_ret (v := some (z_i (-1))) dX8_setupByte_5 ⟨rfl, Or.inl rfl⟩ rfl rfl h
def f_X9_in (w : Nat → Int → Int) (x0 : Int) (x1 : Int) (x2 : Int) : Int := if x0 < x1 then 0 else if x2 < x0 then 0 else 1
set_option maxRecDepth 100000 in
theorem t_X9_in {sh : List z_C} {w : Nat → Int → Int} {Q : Option z_V → z_S → Prop} {x0 : Int} {x1 : Int} {x2 : Int}  (h : Q (some (z_i (f_X9_in w x0 x1 x2))) (sh, w)) : z_Sem mX9_in (sh.length, 0) 0 [(0, z_i x0), (1, z_i x1), (2, z_i x2)] [] (sh, w) Q := by
  unfold f_X9_in at h
  refine z_iload_n 0 dX9_in_0 rfl rfl ?_
  refine z_iload_n 1 dX9_in_1 rfl rfl ?_
  suffices hJ1 : z_Sem mX9_in (sh.length, 0) 15 [] [z_i (if x0 < x1 then 0 else if x2 < x0 then 0 else 1)] (sh, w) Q by
    refine z_icmp_lt (tgt := 14) dX9_in_2 (by decide) (fun c2 => ?_) (fun c2 => ?_)
    · skip
      refine z_iconst dX9_in_14 (by decide) ?_
      refine z_sub (L' := []) [] rfl ?_
      simp only [if_pos c2] at hJ1
      exact hJ1
    · skip
      refine z_iload_n 0 dX9_in_5 rfl rfl ?_
      refine z_iload_n 2 dX9_in_6 rfl rfl ?_
      suffices hJ5 : z_Sem mX9_in (sh.length, 0) 15 [] [z_i (if x2 < x0 then 0 else 1)] (sh, w) Q by
        refine z_icmp_gt (tgt := 14) dX9_in_7 (by decide) (fun c6 => ?_) (fun c6 => ?_)
        · skip
          refine z_iconst dX9_in_14 (by decide) ?_
          refine z_sub (L' := []) [] rfl ?_
          simp only [if_pos c6] at hJ5
          exact hJ5
        · skip
          refine z_iconst dX9_in_10 (by decide) ?_
          refine z_goto (tgt := 15) dX9_in_11 (by decide) ?_
          refine z_sub (L' := []) [] rfl ?_
          simp only [if_neg c6] at hJ5
          exact hJ5
      simp only [if_neg c2] at hJ1
      exact hJ1
  exact z_ret (v := some (z_i (if x0 < x1 then 0 else if x2 < x0 then 0 else 1))) dX9_in_15 ⟨rfl, Or.inr (Or.inl ⟨rfl, (z_it01 (by decide) (z_it01 (by decide) (by decide)))⟩)⟩ rfl rfl h
set_option maxRecDepth 100000 in
theorem t_X9_begins {sh : List z_C} {w : Nat → Int → Int} {Q : Option z_V → z_S → Prop}  (hh0 : z_isMod sh 161) (h : z_Sem mX9_begins (sh.length, 0) 2 [(0, z_r 161), (1, z_i 0)] [] (sh, w) Q) : z_Sem mX9_begins (sh.length, 0) 0 [(0, z_r 161)] [] (sh, w) Q := by
  refine z_iconst dX9_begins_0 (by decide) ?_
  refine z_istore_n (L' := [(1, z_i 0), (0, z_r 161)]) dX9_begins_1 rfl (by decide) rfl ?_
  refine z_sub (L' := [(0, z_r 161), (1, z_i 0)]) [1, 0] rfl ?_
  exact h
set_option maxRecDepth 100000 in
theorem t_X9_begins_2 {sh : List z_C} {w : Nat → Int → Int} {Q : Option z_V → z_S → Prop} {x1 : Int} (hh0 : z_isMod sh 161) (h : ((264 ≤ x1 → Q none (sh, w)) ∧ (¬ 264 ≤ x1 → ((0 : Int) ≤ x1 ∧ x1 < 264) ∧ ((0 : Int) ≤ x1 ∧ x1 < 264) ∧ ∀ w3 : Nat → Int → Int, w3 = z_W w 164 x1 (w 163 x1) → (z_R (x1 + 1)) ∧ z_Sem mX9_begins (sh.length, 0) 2 [(0, z_r 161), (1, z_i (x1 + 1))] [] (sh, w3) Q))) : z_Sem mX9_begins (sh.length, 0) 2 [(0, z_r 161), (1, z_i x1)] [] (sh, w) Q := by
  refine z_iload_n 1 dX9_begins_2 rfl rfl ?_
  refine z_sipush dX9_begins_3 (by decide) (by decide) ?_
  refine z_icmp_ge (tgt := 27) dX9_begins_6 (by decide) (fun c1 => ?_) (fun c1 => ?_)
  · replace h := h.1 c1
    exact z_ret (v := none) dX9_begins_27 ⟨rfl, rfl⟩ rfl rfl h
  · replace h := h.2 c1
    refine z_aload_n 0 dX9_begins_9 rfl rfl ?_
    refine z_getR (r := 164) zfRX9_21 dX9_begins_10 hh0.1 rfl ?_
    refine z_iload_n 1 dX9_begins_13 rfl rfl ?_
    refine z_aload_n 0 dX9_begins_14 rfl rfl ?_
    refine z_getR (r := 163) zfRX9_17 dX9_begins_15 hh0.1 rfl ?_
    refine z_iload_n 1 dX9_begins_18 rfl rfl ?_
    obtain ⟨q2, h⟩ := h
    refine z_iald dX9_begins_19 hh0.2.2.1 q2 ?_
    obtain ⟨q4, h⟩ := h
    refine z_iast dX9_begins_20 hh0.2.2.2.1 q4 ?_
    refine z_genw (fun w3 hw3 => ?_)
    replace h := h w3 hw3
    obtain ⟨q5, h⟩ := h
    refine z_iinc (L' := [(1, z_i (x1 + 1)), (0, z_r 161)]) 1 dX9_begins_21 rfl (by decide) rfl q5 ?_
    refine z_goto (tgt := 2) dX9_begins_24 (by decide) ?_
    refine z_sub (L' := [(0, z_r 161), (1, z_i (x1 + 1))]) [1, 0] rfl ?_
    exact h
set_option maxRecDepth 100000 in
theorem t_X9_fails {sh : List z_C} {w : Nat → Int → Int} {Q : Option z_V → z_S → Prop} {x1 : Int} (hh0 : z_isMod sh 161) (h : z_Sem mX9_fails (sh.length, 0) 2 [(0, z_r 161), (1, z_i x1), (2, z_i 0)] [] (sh, w) Q) : z_Sem mX9_fails (sh.length, 0) 0 [(0, z_r 161), (1, z_i x1)] [] (sh, w) Q := by
  refine z_iconst dX9_fails_0 (by decide) ?_
  refine z_istore_n (L' := [(2, z_i 0), (0, z_r 161), (1, z_i x1)]) dX9_fails_1 rfl (by decide) rfl ?_
  refine z_sub (L' := [(0, z_r 161), (1, z_i x1), (2, z_i 0)]) [1, 2, 0] rfl ?_
  exact h
set_option maxRecDepth 100000 in
theorem t_X9_fails_2 {sh : List z_C} {w : Nat → Int → Int} {Q : Option z_V → z_S → Prop} {x1 : Int} {x2 : Int} (hh0 : z_isMod sh 161) (h : ((264 ≤ x2 → Q (some (z_i x1)) (sh, w)) ∧ (¬ 264 ≤ x2 → ((0 : Int) ≤ x2 ∧ x2 < 264) ∧ ((0 : Int) ≤ x2 ∧ x2 < 264) ∧ ∀ w3 : Nat → Int → Int, w3 = z_W w 163 x2 (w 164 x2) → (z_R (x2 + 1)) ∧ z_Sem mX9_fails (sh.length, 0) 2 [(0, z_r 161), (1, z_i x1), (2, z_i (x2 + 1))] [] (sh, w3) Q))) : z_Sem mX9_fails (sh.length, 0) 2 [(0, z_r 161), (1, z_i x1), (2, z_i x2)] [] (sh, w) Q := by
  refine z_iload_n 2 dX9_fails_2 rfl rfl ?_
  refine z_sipush dX9_fails_3 (by decide) (by decide) ?_
  refine z_icmp_ge (tgt := 27) dX9_fails_6 (by decide) (fun c1 => ?_) (fun c1 => ?_)
  · replace h := h.1 c1
    refine z_iload_n 1 dX9_fails_27 rfl rfl ?_
    exact z_ret (v := some (z_i x1)) dX9_fails_28 ⟨rfl, Or.inl rfl⟩ rfl rfl h
  · replace h := h.2 c1
    refine z_aload_n 0 dX9_fails_9 rfl rfl ?_
    refine z_getR (r := 163) zfRX9_17 dX9_fails_10 hh0.1 rfl ?_
    refine z_iload_n 2 dX9_fails_13 rfl rfl ?_
    refine z_aload_n 0 dX9_fails_14 rfl rfl ?_
    refine z_getR (r := 164) zfRX9_21 dX9_fails_15 hh0.1 rfl ?_
    refine z_iload_n 2 dX9_fails_18 rfl rfl ?_
    obtain ⟨q2, h⟩ := h
    refine z_iald dX9_fails_19 hh0.2.2.2.1 q2 ?_
    obtain ⟨q4, h⟩ := h
    refine z_iast dX9_fails_20 hh0.2.2.1 q4 ?_
    refine z_genw (fun w3 hw3 => ?_)
    replace h := h w3 hw3
    obtain ⟨q5, h⟩ := h
    refine z_iinc (L' := [(2, z_i (x2 + 1)), (0, z_r 161), (1, z_i x1)]) 2 dX9_fails_21 rfl (by decide) rfl q5 ?_
    refine z_goto (tgt := 2) dX9_fails_24 (by decide) ?_
    refine z_sub (L' := [(0, z_r 161), (1, z_i x1), (2, z_i (x2 + 1))]) [1, 2, 0] rfl ?_
    exact h
set_option maxRecDepth 100000 in
theorem t_X9_done {sh : List z_C} {w : Nat → Int → Int} {Q : Option z_V → z_S → Prop} {x1 : Int} (hh0 : z_isMod sh 161) (h : (((w 161 8) = 8 → z_Sem mX9_done (sh.length, 0) 11 [(0, z_r 161), (1, z_i x1), (2, z_i 0)] [] (sh, w) Q) ∧ (¬ (w 161 8) = 8 → z_Sem mX9_done (sh.length, 0) 52 [(0, z_r 161), (1, z_i x1), (2, z_i 0)] [] (sh, w) Q))) : z_Sem mX9_done (sh.length, 0) 0 [(0, z_r 161), (1, z_i x1)] [] (sh, w) Q := by
  refine z_aload_n 0 dX9_done_0 rfl rfl ?_
  refine z_getI (ki := 8) zfRX9_62 dX9_done_1 hh0.1 rfl rfl ?_
  refine z_bipush dX9_done_4 (by decide) (by decide) ?_
  refine z_icmp_ne (tgt := 50) dX9_done_6 (by decide) (fun c1 => ?_) (fun c1 => ?_)
  · replace h := h.2 c1
    refine z_iconst dX9_done_50 (by decide) ?_
    refine z_istore_n (L' := [(2, z_i 0), (0, z_r 161), (1, z_i x1)]) dX9_done_51 rfl (by decide) rfl ?_
    refine z_sub (L' := [(0, z_r 161), (1, z_i x1), (2, z_i 0)]) [1, 2, 0] rfl ?_
    exact h
  · replace h := h.1 c1
    refine z_iconst dX9_done_9 (by decide) ?_
    refine z_istore_n (L' := [(2, z_i 0), (0, z_r 161), (1, z_i x1)]) dX9_done_10 rfl (by decide) rfl ?_
    refine z_sub (L' := [(0, z_r 161), (1, z_i x1), (2, z_i 0)]) [1, 2, 0] rfl ?_
    exact h
set_option maxRecDepth 100000 in
theorem t_X9_done_52 {sh : List z_C} {w : Nat → Int → Int} {Q : Option z_V → z_S → Prop} {x1 : Int} {x2 : Int} (hh0 : z_isMod sh 161) (h : ((264 ≤ x2 → (z_R ((w 161 8) + 1)) ∧ ∀ w3 : Nat → Int → Int, w3 = z_W w 161 8 ((w 161 8) + 1) → Q (some (z_i x1)) (sh, w3)) ∧ (¬ 264 ≤ x2 → (z_R (264 * (w 161 8))) ∧ (z_R ((264 * (w 161 8)) + x2)) ∧ ((0 : Int) ≤ x2 ∧ x2 < 264) ∧ ((0 : Int) ≤ ((264 * (w 161 8)) + x2) ∧ ((264 * (w 161 8)) + x2) < 2112) ∧ ∀ w7 : Nat → Int → Int, w7 = z_W w 165 ((264 * (w 161 8)) + x2) (w 164 x2) → (z_R (x2 + 1)) ∧ z_Sem mX9_done (sh.length, 0) 52 [(0, z_r 161), (1, z_i x1), (2, z_i (x2 + 1))] [] (sh, w7) Q))) : z_Sem mX9_done (sh.length, 0) 52 [(0, z_r 161), (1, z_i x1), (2, z_i x2)] [] (sh, w) Q := by
  refine z_iload_n 2 dX9_done_52 rfl rfl ?_
  refine z_sipush dX9_done_53 (by decide) (by decide) ?_
  refine z_icmp_ge (tgt := 86) dX9_done_56 (by decide) (fun c1 => ?_) (fun c1 => ?_)
  · replace h := h.1 c1
    refine z_aload_n 0 dX9_done_86 rfl rfl ?_
    refine z_dup dX9_done_87 rfl ?_
    refine z_getI (ki := 8) zfRX9_62 dX9_done_88 hh0.1 rfl rfl ?_
    refine z_iconst dX9_done_91 (by decide) ?_
    obtain ⟨q2, h⟩ := h
    refine z_iadd dX9_done_92 q2 ?_
    refine z_putI (ki := 8) zfRX9_62 dX9_done_93 hh0.1 rfl rfl ?_
    refine z_genw (fun w3 hw3 => ?_)
    replace h := h w3 hw3
    refine z_iload_n 1 dX9_done_96 rfl rfl ?_
    exact z_ret (v := some (z_i x1)) dX9_done_97 ⟨rfl, Or.inl rfl⟩ rfl rfl h
  · replace h := h.2 c1
    refine z_aload_n 0 dX9_done_59 rfl rfl ?_
    refine z_getR (r := 165) zfRX9_24 dX9_done_60 hh0.1 rfl ?_
    refine z_sipush dX9_done_63 (by decide) (by decide) ?_
    refine z_aload_n 0 dX9_done_66 rfl rfl ?_
    refine z_getI (ki := 8) zfRX9_62 dX9_done_67 hh0.1 rfl rfl ?_
    obtain ⟨q4, h⟩ := h
    refine z_imul dX9_done_70 q4 ?_
    refine z_iload_n 2 dX9_done_71 rfl rfl ?_
    obtain ⟨q5, h⟩ := h
    refine z_iadd dX9_done_72 q5 ?_
    refine z_aload_n 0 dX9_done_73 rfl rfl ?_
    refine z_getR (r := 164) zfRX9_21 dX9_done_74 hh0.1 rfl ?_
    refine z_iload_n 2 dX9_done_77 rfl rfl ?_
    obtain ⟨q6, h⟩ := h
    refine z_iald dX9_done_78 hh0.2.2.2.1 q6 ?_
    obtain ⟨q8, h⟩ := h
    refine z_iast dX9_done_79 hh0.2.2.2.2.1 q8 ?_
    refine z_genw (fun w7 hw7 => ?_)
    replace h := h w7 hw7
    obtain ⟨q9, h⟩ := h
    refine z_iinc (L' := [(2, z_i (x2 + 1)), (0, z_r 161), (1, z_i x1)]) 2 dX9_done_80 rfl (by decide) rfl q9 ?_
    refine z_goto (tgt := 52) dX9_done_83 (by decide) ?_
    refine z_sub (L' := [(0, z_r 161), (1, z_i x1), (2, z_i (x2 + 1))]) [1, 2, 0] rfl ?_
    exact h
set_option maxRecDepth 100000 in
theorem t_X9_done_11 {sh : List z_C} {w : Nat → Int → Int} {Q : Option z_V → z_S → Prop} {x1 : Int} {x2 : Int} (hh0 : z_isMod sh 161) (h : ((1848 ≤ x2 → (z_R ((w 161 8) - 1)) ∧ ∀ w3 : Nat → Int → Int, w3 = z_W w 161 8 ((w 161 8) - 1) → z_Sem mX9_done (sh.length, 0) 52 [(0, z_r 161), (1, z_i x1), (2, z_i 0)] [] (sh, w3) Q) ∧ (¬ 1848 ≤ x2 → (z_R (x2 + 264)) ∧ ((0 : Int) ≤ (x2 + 264) ∧ (x2 + 264) < 2112) ∧ ((0 : Int) ≤ x2 ∧ x2 < 2112) ∧ ∀ w6 : Nat → Int → Int, w6 = z_W w 165 x2 (w 165 (x2 + 264)) → (z_R (x2 + 1)) ∧ z_Sem mX9_done (sh.length, 0) 11 [(0, z_r 161), (1, z_i x1), (2, z_i (x2 + 1))] [] (sh, w6) Q))) : z_Sem mX9_done (sh.length, 0) 11 [(0, z_r 161), (1, z_i x1), (2, z_i x2)] [] (sh, w) Q := by
  refine z_iload_n 2 dX9_done_11 rfl rfl ?_
  refine z_sipush dX9_done_12 (by decide) (by decide) ?_
  refine z_icmp_ge (tgt := 40) dX9_done_15 (by decide) (fun c1 => ?_) (fun c1 => ?_)
  · replace h := h.1 c1
    refine z_aload_n 0 dX9_done_40 rfl rfl ?_
    refine z_dup dX9_done_41 rfl ?_
    refine z_getI (ki := 8) zfRX9_62 dX9_done_42 hh0.1 rfl rfl ?_
    refine z_iconst dX9_done_45 (by decide) ?_
    obtain ⟨q2, h⟩ := h
    refine z_isub dX9_done_46 q2 ?_
    refine z_putI (ki := 8) zfRX9_62 dX9_done_47 hh0.1 rfl rfl ?_
    refine z_genw (fun w3 hw3 => ?_)
    replace h := h w3 hw3
    refine z_iconst dX9_done_50 (by decide) ?_
    refine z_istore_n (L' := [(2, z_i 0), (0, z_r 161), (1, z_i x1)]) dX9_done_51 rfl (by decide) rfl ?_
    refine z_sub (L' := [(0, z_r 161), (1, z_i x1), (2, z_i 0)]) [1, 2, 0] rfl ?_
    exact h
  · replace h := h.2 c1
    refine z_aload_n 0 dX9_done_18 rfl rfl ?_
    refine z_getR (r := 165) zfRX9_24 dX9_done_19 hh0.1 rfl ?_
    refine z_iload_n 2 dX9_done_22 rfl rfl ?_
    refine z_aload_n 0 dX9_done_23 rfl rfl ?_
    refine z_getR (r := 165) zfRX9_24 dX9_done_24 hh0.1 rfl ?_
    refine z_iload_n 2 dX9_done_27 rfl rfl ?_
    refine z_sipush dX9_done_28 (by decide) (by decide) ?_
    obtain ⟨q4, h⟩ := h
    refine z_iadd dX9_done_31 q4 ?_
    obtain ⟨q5, h⟩ := h
    refine z_iald dX9_done_32 hh0.2.2.2.2.1 q5 ?_
    obtain ⟨q7, h⟩ := h
    refine z_iast dX9_done_33 hh0.2.2.2.2.1 q7 ?_
    refine z_genw (fun w6 hw6 => ?_)
    replace h := h w6 hw6
    obtain ⟨q8, h⟩ := h
    refine z_iinc (L' := [(2, z_i (x2 + 1)), (0, z_r 161), (1, z_i x1)]) 2 dX9_done_34 rfl (by decide) rfl q8 ?_
    refine z_goto (tgt := 11) dX9_done_37 (by decide) ?_
    refine z_sub (L' := [(0, z_r 161), (1, z_i x1), (2, z_i (x2 + 1))]) [1, 2, 0] rfl ?_
    exact h
set_option maxRecDepth 100000 in
theorem t_X9_undo {sh : List z_C} {w : Nat → Int → Int} {Q : Option z_V → z_S → Prop}  (hh0 : z_isMod sh 161) (h : (((w 161 8) = 0 → Q (some (z_i (-1))) (sh, w)) ∧ (¬ (w 161 8) = 0 → (z_R ((w 161 8) - 1)) ∧ ∀ w3 : Nat → Int → Int, w3 = z_W w 161 8 ((w 161 8) - 1) → z_Sem mX9_undo (sh.length, 0) 21 [(0, z_r 161), (1, z_i 0)] [] (sh, w3) Q))) : z_Sem mX9_undo (sh.length, 0) 0 [(0, z_r 161)] [] (sh, w) Q := by
  refine z_aload_n 0 dX9_undo_0 rfl rfl ?_
  refine z_getI (ki := 8) zfRX9_62 dX9_undo_1 hh0.1 rfl rfl ?_
  refine z_if_ne (tgt := 9) dX9_undo_4 (by decide) (fun c1 => ?_) (fun c1 => ?_)
  · replace h := h.2 c1
    refine z_aload_n 0 dX9_undo_9 rfl rfl ?_
    refine z_dup dX9_undo_10 rfl ?_
    refine z_getI (ki := 8) zfRX9_62 dX9_undo_11 hh0.1 rfl rfl ?_
    refine z_iconst dX9_undo_14 (by decide) ?_
    obtain ⟨q2, h⟩ := h
    refine z_isub dX9_undo_15 q2 ?_
    refine z_putI (ki := 8) zfRX9_62 dX9_undo_16 hh0.1 rfl rfl ?_
    refine z_genw (fun w3 hw3 => ?_)
    replace h := h w3 hw3
    refine z_iconst dX9_undo_19 (by decide) ?_
    refine z_istore_n (L' := [(1, z_i 0), (0, z_r 161)]) dX9_undo_20 rfl (by decide) rfl ?_
    refine z_sub (L' := [(0, z_r 161), (1, z_i 0)]) [1, 0] rfl ?_
    exact h
  · replace h := h.1 c1
    refine z_iconst dX9_undo_7 (by decide) ?_
    exact z_ret (v := some (z_i (-1))) dX9_undo_8 ⟨rfl, Or.inl rfl⟩ rfl rfl h
set_option maxRecDepth 100000 in
theorem t_X9_undo_21 {sh : List z_C} {w : Nat → Int → Int} {Q : Option z_V → z_S → Prop} {x1 : Int} (hh0 : z_isMod sh 161) (h : ((264 ≤ x1 → Q (some (z_i (w 161 8))) (sh, w)) ∧ (¬ 264 ≤ x1 → (z_R (264 * (w 161 8))) ∧ (z_R ((264 * (w 161 8)) + x1)) ∧ ((0 : Int) ≤ ((264 * (w 161 8)) + x1) ∧ ((264 * (w 161 8)) + x1) < 2112) ∧ ((0 : Int) ≤ x1 ∧ x1 < 264) ∧ ∀ w5 : Nat → Int → Int, w5 = z_W w 163 x1 (w 165 ((264 * (w 161 8)) + x1)) → (z_R (x1 + 1)) ∧ z_Sem mX9_undo (sh.length, 0) 21 [(0, z_r 161), (1, z_i (x1 + 1))] [] (sh, w5) Q))) : z_Sem mX9_undo (sh.length, 0) 21 [(0, z_r 161), (1, z_i x1)] [] (sh, w) Q := by
  refine z_iload_n 1 dX9_undo_21 rfl rfl ?_
  refine z_sipush dX9_undo_22 (by decide) (by decide) ?_
  refine z_icmp_ge (tgt := 55) dX9_undo_25 (by decide) (fun c1 => ?_) (fun c1 => ?_)
  · replace h := h.1 c1
    refine z_aload_n 0 dX9_undo_55 rfl rfl ?_
    refine z_getI (ki := 8) zfRX9_62 dX9_undo_56 hh0.1 rfl rfl ?_
    exact z_ret (v := some (z_i (w 161 8))) dX9_undo_59 ⟨rfl, Or.inl rfl⟩ rfl rfl h
  · replace h := h.2 c1
    refine z_aload_n 0 dX9_undo_28 rfl rfl ?_
    refine z_getR (r := 163) zfRX9_17 dX9_undo_29 hh0.1 rfl ?_
    refine z_iload_n 1 dX9_undo_32 rfl rfl ?_
    refine z_aload_n 0 dX9_undo_33 rfl rfl ?_
    refine z_getR (r := 165) zfRX9_24 dX9_undo_34 hh0.1 rfl ?_
    refine z_sipush dX9_undo_37 (by decide) (by decide) ?_
    refine z_aload_n 0 dX9_undo_40 rfl rfl ?_
    refine z_getI (ki := 8) zfRX9_62 dX9_undo_41 hh0.1 rfl rfl ?_
    obtain ⟨q2, h⟩ := h
    refine z_imul dX9_undo_44 q2 ?_
    refine z_iload_n 1 dX9_undo_45 rfl rfl ?_
    obtain ⟨q3, h⟩ := h
    refine z_iadd dX9_undo_46 q3 ?_
    obtain ⟨q4, h⟩ := h
    refine z_iald dX9_undo_47 hh0.2.2.2.2.1 q4 ?_
    obtain ⟨q6, h⟩ := h
    refine z_iast dX9_undo_48 hh0.2.2.1 q6 ?_
    refine z_genw (fun w5 hw5 => ?_)
    replace h := h w5 hw5
    obtain ⟨q7, h⟩ := h
    refine z_iinc (L' := [(1, z_i (x1 + 1)), (0, z_r 161)]) 1 dX9_undo_49 rfl (by decide) rfl q7 ?_
    refine z_goto (tgt := 21) dX9_undo_52 (by decide) ?_
    refine z_sub (L' := [(0, z_r 161), (1, z_i (x1 + 1))]) [1, 0] rfl ?_
    exact h
set_option maxRecDepth 100000 in
theorem t_X9_keep {sh : List z_C} {w : Nat → Int → Int} {Q : Option z_V → z_S → Prop} {x1 : Int} (hh0 : z_isMod sh 161) (h : (((f_X9_in w x1 0 1) = 0 → Q (some (z_i (-1))) (sh, w)) ∧ (¬ (f_X9_in w x1 0 1) = 0 → z_Sem mX9_keep (sh.length, 0) 13 [(0, z_r 161), (1, z_i x1), (2, z_i 0)] [] (sh, w) Q))) : z_Sem mX9_keep (sh.length, 0) 0 [(0, z_r 161), (1, z_i x1)] [] (sh, w) Q := by
  refine z_iload_n 1 dX9_keep_0 rfl rfl ?_
  refine z_iconst dX9_keep_1 (by decide) ?_
  refine z_iconst dX9_keep_2 (by decide) ?_
  refine z_callS (As := [z_i x1, z_i 0, z_i 1]) (rest := []) zmX9_in ztX9_in zlRX9_65 ⟨Nat.le_of_ble_eq_true rfl, Nat.le_of_ble_eq_true rfl⟩ dX9_keep_3 rfl rfl (z_ai (z_ai (z_ai z_a0))) (Nat.le_of_ble_eq_true rfl) (Nat.le_of_ble_eq_true rfl) ⟨Nat.le_refl _, Nat.le_refl _⟩ ?_
  refine t_X9_in  ?_
  show z_Sem mX9_keep (sh.length, 0) 6 [(0, z_r 161), (1, z_i x1)] [z_i (f_X9_in w x1 0 1)] (sh, w) Q
  refine z_if_ne (tgt := 11) dX9_keep_6 (by decide) (fun c1 => ?_) (fun c1 => ?_)
  · replace h := h.2 c1
    refine z_iconst dX9_keep_11 (by decide) ?_
    refine z_istore_n (L' := [(2, z_i 0), (0, z_r 161), (1, z_i x1)]) dX9_keep_12 rfl (by decide) rfl ?_
    refine z_sub (L' := [(0, z_r 161), (1, z_i x1), (2, z_i 0)]) [1, 2, 0] rfl ?_
    exact h
  · replace h := h.1 c1
    refine z_iconst dX9_keep_9 (by decide) ?_
    exact z_ret (v := some (z_i (-1))) dX9_keep_10 ⟨rfl, Or.inl rfl⟩ rfl rfl h
set_option maxRecDepth 100000 in
theorem t_X9_keep_13 {sh : List z_C} {w : Nat → Int → Int} {Q : Option z_V → z_S → Prop} {x1 : Int} {x2 : Int} (hh0 : z_isMod sh 161) (h : ((264 ≤ x2 → ((0 : Int) ≤ x1 ∧ x1 < 2) ∧ ∀ w2 : Nat → Int → Int, w2 = z_W w 167 x1 1 → Q (some (z_i (w2 163 2))) (sh, w2)) ∧ (¬ 264 ≤ x2 → (z_R (264 * x1)) ∧ (z_R ((264 * x1) + x2)) ∧ ((0 : Int) ≤ x2 ∧ x2 < 264) ∧ ((0 : Int) ≤ ((264 * x1) + x2) ∧ ((264 * x1) + x2) < 528) ∧ ∀ w7 : Nat → Int → Int, w7 = z_W w 166 ((264 * x1) + x2) (w 163 x2) → (z_R (x2 + 1)) ∧ z_Sem mX9_keep (sh.length, 0) 13 [(0, z_r 161), (1, z_i x1), (2, z_i (x2 + 1))] [] (sh, w7) Q))) : z_Sem mX9_keep (sh.length, 0) 13 [(0, z_r 161), (1, z_i x1), (2, z_i x2)] [] (sh, w) Q := by
  refine z_iload_n 2 dX9_keep_13 rfl rfl ?_
  refine z_sipush dX9_keep_14 (by decide) (by decide) ?_
  refine z_icmp_ge (tgt := 44) dX9_keep_17 (by decide) (fun c1 => ?_) (fun c1 => ?_)
  · replace h := h.1 c1
    refine z_aload_n 0 dX9_keep_44 rfl rfl ?_
    refine z_getR (r := 167) zfRX9_30 dX9_keep_45 hh0.1 rfl ?_
    refine z_iload_n 1 dX9_keep_48 rfl rfl ?_
    refine z_iconst dX9_keep_49 (by decide) ?_
    obtain ⟨q3, h⟩ := h
    refine z_zast dX9_keep_50 hh0.2.2.2.2.2.2.1 q3 (by decide) ?_
    refine z_genw (fun w2 hw2 => ?_)
    replace h := h w2 hw2
    refine z_aload_n 0 dX9_keep_51 rfl rfl ?_
    refine z_getR (r := 163) zfRX9_17 dX9_keep_52 hh0.1 rfl ?_
    refine z_iconst dX9_keep_55 (by decide) ?_
    refine z_iald dX9_keep_56 hh0.2.2.1 (by decide) ?_
    exact z_ret (v := some (z_i (w2 163 2))) dX9_keep_57 ⟨rfl, Or.inl rfl⟩ rfl rfl h
  · replace h := h.2 c1
    refine z_aload_n 0 dX9_keep_20 rfl rfl ?_
    refine z_getR (r := 166) zfRX9_27 dX9_keep_21 hh0.1 rfl ?_
    refine z_sipush dX9_keep_24 (by decide) (by decide) ?_
    refine z_iload_n 1 dX9_keep_27 rfl rfl ?_
    obtain ⟨q4, h⟩ := h
    refine z_imul dX9_keep_28 q4 ?_
    refine z_iload_n 2 dX9_keep_29 rfl rfl ?_
    obtain ⟨q5, h⟩ := h
    refine z_iadd dX9_keep_30 q5 ?_
    refine z_aload_n 0 dX9_keep_31 rfl rfl ?_
    refine z_getR (r := 163) zfRX9_17 dX9_keep_32 hh0.1 rfl ?_
    refine z_iload_n 2 dX9_keep_35 rfl rfl ?_
    obtain ⟨q6, h⟩ := h
    refine z_iald dX9_keep_36 hh0.2.2.1 q6 ?_
    obtain ⟨q8, h⟩ := h
    refine z_iast dX9_keep_37 hh0.2.2.2.2.2.1 q8 ?_
    refine z_genw (fun w7 hw7 => ?_)
    replace h := h w7 hw7
    obtain ⟨q9, h⟩ := h
    refine z_iinc (L' := [(2, z_i (x2 + 1)), (0, z_r 161), (1, z_i x1)]) 2 dX9_keep_38 rfl (by decide) rfl q9 ?_
    refine z_goto (tgt := 13) dX9_keep_41 (by decide) ?_
    refine z_sub (L' := [(0, z_r 161), (1, z_i x1), (2, z_i (x2 + 1))]) [1, 2, 0] rfl ?_
    exact h
set_option maxRecDepth 100000 in
theorem t_X9_restore {sh : List z_C} {w : Nat → Int → Int} {Q : Option z_V → z_S → Prop} {x1 : Int} (hh0 : z_isMod sh 161) (h : (((f_X9_in w x1 0 1) = 0 → Q (some (z_i (-1))) (sh, w)) ∧ (¬ (f_X9_in w x1 0 1) = 0 → ((0 : Int) ≤ x1 ∧ x1 < 2) ∧ (((w 167 x1) = 0 → Q (some (z_i (-2))) (sh, w)) ∧ (¬ (w 167 x1) = 0 → z_CV mX9_begins [z_r 161] sh w (fun w4 => z_Sem mX9_restore (sh.length, 0) 29 [(0, z_r 161), (1, z_i x1), (2, z_i 0)] [] (sh, w4) Q)))))) : z_Sem mX9_restore (sh.length, 0) 0 [(0, z_r 161), (1, z_i x1)] [] (sh, w) Q := by
  refine z_iload_n 1 dX9_restore_0 rfl rfl ?_
  refine z_iconst dX9_restore_1 (by decide) ?_
  refine z_iconst dX9_restore_2 (by decide) ?_
  refine z_callS (As := [z_i x1, z_i 0, z_i 1]) (rest := []) zmX9_in ztX9_in zlRX9_65 ⟨Nat.le_of_ble_eq_true rfl, Nat.le_of_ble_eq_true rfl⟩ dX9_restore_3 rfl rfl (z_ai (z_ai (z_ai z_a0))) (Nat.le_of_ble_eq_true rfl) (Nat.le_of_ble_eq_true rfl) ⟨Nat.le_refl _, Nat.le_refl _⟩ ?_
  refine t_X9_in  ?_
  show z_Sem mX9_restore (sh.length, 0) 6 [(0, z_r 161), (1, z_i x1)] [z_i (f_X9_in w x1 0 1)] (sh, w) Q
  refine z_if_ne (tgt := 11) dX9_restore_6 (by decide) (fun c1 => ?_) (fun c1 => ?_)
  · replace h := h.2 c1
    refine z_aload_n 0 dX9_restore_11 rfl rfl ?_
    refine z_getR (r := 167) zfRX9_30 dX9_restore_12 hh0.1 rfl ?_
    refine z_iload_n 1 dX9_restore_15 rfl rfl ?_
    obtain ⟨q2, h⟩ := h
    refine z_zald dX9_restore_16 hh0.2.2.2.2.2.2.1 q2 ?_
    refine z_if_ne (tgt := 23) dX9_restore_17 (by decide) (fun c3 => ?_) (fun c3 => ?_)
    · replace h := h.2 c3
      refine z_aload_n 0 dX9_restore_23 rfl rfl ?_
      refine z_callV (As := []) (rest := []) zmX9_begins znX9_begins zsX9_begins (show vwCl[9]? = some (RX9, TX9, 29) from rfl) zlRX9_69 ⟨Nat.le_of_ble_eq_true rfl, Nat.le_of_ble_eq_true rfl⟩ dX9_restore_24 hh0.1 rfl rfl z_a0 (Nat.le_of_ble_eq_true rfl) (Nat.le_of_ble_eq_true rfl) ⟨Nat.le_refl _, Nat.le_refl _⟩ (z_CVm h ?_)
      intro w4 h
      show z_Sem mX9_restore (sh.length, 0) 27 [(0, z_r 161), (1, z_i x1)] [] (sh, w4) Q
      refine z_iconst dX9_restore_27 (by decide) ?_
      refine z_istore_n (L' := [(2, z_i 0), (0, z_r 161), (1, z_i x1)]) dX9_restore_28 rfl (by decide) rfl ?_
      refine z_sub (L' := [(0, z_r 161), (1, z_i x1), (2, z_i 0)]) [1, 2, 0] rfl ?_
      exact h
    · replace h := h.1 c3
      refine z_bipush dX9_restore_20 (by decide) (by decide) ?_
      exact z_ret (v := some (z_i (-2))) dX9_restore_22 ⟨rfl, Or.inl rfl⟩ rfl rfl h
  · replace h := h.1 c1
    refine z_iconst dX9_restore_9 (by decide) ?_
    exact z_ret (v := some (z_i (-1))) dX9_restore_10 ⟨rfl, Or.inl rfl⟩ rfl rfl h
set_option maxRecDepth 100000 in
theorem t_X9_restore_29 {sh : List z_C} {w : Nat → Int → Int} {Q : Option z_V → z_S → Prop} {x1 : Int} {x2 : Int} (hh0 : z_isMod sh 161) (h : ((264 ≤ x2 → z_CI mX9_done [z_r 161, z_i (w 163 2)] sh w (fun y3 w2 => Q (some (z_i y3)) (sh, w2))) ∧ (¬ 264 ≤ x2 → (z_R (264 * x1)) ∧ (z_R ((264 * x1) + x2)) ∧ ((0 : Int) ≤ ((264 * x1) + x2) ∧ ((264 * x1) + x2) < 528) ∧ ((0 : Int) ≤ x2 ∧ x2 < 264) ∧ ∀ w7 : Nat → Int → Int, w7 = z_W w 163 x2 (w 166 ((264 * x1) + x2)) → (z_R (x2 + 1)) ∧ z_Sem mX9_restore (sh.length, 0) 29 [(0, z_r 161), (1, z_i x1), (2, z_i (x2 + 1))] [] (sh, w7) Q))) : z_Sem mX9_restore (sh.length, 0) 29 [(0, z_r 161), (1, z_i x1), (2, z_i x2)] [] (sh, w) Q := by
  refine z_iload_n 2 dX9_restore_29 rfl rfl ?_
  refine z_sipush dX9_restore_30 (by decide) (by decide) ?_
  refine z_icmp_ge (tgt := 60) dX9_restore_33 (by decide) (fun c1 => ?_) (fun c1 => ?_)
  · replace h := h.1 c1
    refine z_aload_n 0 dX9_restore_60 rfl rfl ?_
    refine z_aload_n 0 dX9_restore_61 rfl rfl ?_
    refine z_getR (r := 163) zfRX9_17 dX9_restore_62 hh0.1 rfl ?_
    refine z_iconst dX9_restore_65 (by decide) ?_
    refine z_iald dX9_restore_66 hh0.2.2.1 (by decide) ?_
    refine z_callV (As := [z_i (w 163 2)]) (rest := []) zmX9_done znX9_done zsX9_done (show vwCl[9]? = some (RX9, TX9, 29) from rfl) zlRX9_72 ⟨Nat.le_of_ble_eq_true rfl, Nat.le_of_ble_eq_true rfl⟩ dX9_restore_67 hh0.1 rfl rfl (z_ai z_a0) (Nat.le_of_ble_eq_true rfl) (Nat.le_of_ble_eq_true rfl) ⟨Nat.le_refl _, Nat.le_refl _⟩ (z_CIm h ?_)
    intro y3 w2 h
    show z_Sem mX9_restore (sh.length, 0) 70 [(0, z_r 161), (1, z_i x1), (2, z_i x2)] [z_i y3] (sh, w2) Q
    exact z_ret (v := some (z_i y3)) dX9_restore_70 ⟨rfl, Or.inl rfl⟩ rfl rfl h
  · replace h := h.2 c1
    refine z_aload_n 0 dX9_restore_36 rfl rfl ?_
    refine z_getR (r := 163) zfRX9_17 dX9_restore_37 hh0.1 rfl ?_
    refine z_iload_n 2 dX9_restore_40 rfl rfl ?_
    refine z_aload_n 0 dX9_restore_41 rfl rfl ?_
    refine z_getR (r := 166) zfRX9_27 dX9_restore_42 hh0.1 rfl ?_
    refine z_sipush dX9_restore_45 (by decide) (by decide) ?_
    refine z_iload_n 1 dX9_restore_48 rfl rfl ?_
    obtain ⟨q4, h⟩ := h
    refine z_imul dX9_restore_49 q4 ?_
    refine z_iload_n 2 dX9_restore_50 rfl rfl ?_
    obtain ⟨q5, h⟩ := h
    refine z_iadd dX9_restore_51 q5 ?_
    obtain ⟨q6, h⟩ := h
    refine z_iald dX9_restore_52 hh0.2.2.2.2.2.1 q6 ?_
    obtain ⟨q8, h⟩ := h
    refine z_iast dX9_restore_53 hh0.2.2.1 q8 ?_
    refine z_genw (fun w7 hw7 => ?_)
    replace h := h w7 hw7
    obtain ⟨q9, h⟩ := h
    refine z_iinc (L' := [(2, z_i (x2 + 1)), (0, z_r 161), (1, z_i x1)]) 2 dX9_restore_54 rfl (by decide) rfl q9 ?_
    refine z_goto (tgt := 29) dX9_restore_57 (by decide) ?_
    refine z_sub (L' := [(0, z_r 161), (1, z_i x1), (2, z_i (x2 + 1))]) [1, 2, 0] rfl ?_
    exact h
set_option maxRecDepth 100000 in
theorem t_X9_logs {sh : List z_C} {w : Nat → Int → Int} {Q : Option z_V → z_S → Prop} {x1 : Int} {x2 : Int} {x3 : Int} (hh0 : z_isMod sh 161) (h : (((w 163 143) = 40 → z_Sem mX9_logs (sh.length, 0) 16 [(0, z_r 161), (1, z_i x1), (2, z_i x2), (3, z_i x3), (4, z_i 0)] [] (sh, w) Q) ∧ (¬ (w 163 143) = 40 → (z_R (3 * (w 163 143))) ∧ (z_R (144 + (3 * (w 163 143)))) ∧ ∀ y4 : Int, y4 = (144 + (3 * (w 163 143))) → ((0 : Int) ≤ y4 ∧ y4 < 264) ∧ ∀ w5 : Nat → Int → Int, w5 = z_W w 163 y4 x1 → (z_R (y4 + 1)) ∧ ((0 : Int) ≤ (y4 + 1) ∧ (y4 + 1) < 264) ∧ ∀ w8 : Nat → Int → Int, w8 = z_W w5 163 (y4 + 1) x2 → (z_R (y4 + 2)) ∧ ((0 : Int) ≤ (y4 + 2) ∧ (y4 + 2) < 264) ∧ ∀ w11 : Nat → Int → Int, w11 = z_W w8 163 (y4 + 2) x3 → (z_R ((w11 163 143) + 1)) ∧ ∀ w14 : Nat → Int → Int, w14 = z_W w11 163 143 ((w11 163 143) + 1) → Q none (sh, w14)))) : z_Sem mX9_logs (sh.length, 0) 0 [(0, z_r 161), (1, z_i x1), (2, z_i x2), (3, z_i x3)] [] (sh, w) Q := by
  refine z_aload_n 0 dX9_logs_0 rfl rfl ?_
  refine z_getR (r := 163) zfRX9_17 dX9_logs_1 hh0.1 rfl ?_
  refine z_sipush dX9_logs_4 (by decide) (by decide) ?_
  refine z_iald dX9_logs_7 hh0.2.2.1 (by decide) ?_
  refine z_bipush dX9_logs_8 (by decide) (by decide) ?_
  refine z_icmp_ne (tgt := 65) dX9_logs_10 (by decide) (fun c1 => ?_) (fun c1 => ?_)
  · replace h := h.2 c1
    refine z_sipush dX9_logs_65 (by decide) (by decide) ?_
    refine z_iconst dX9_logs_68 (by decide) ?_
    refine z_aload_n 0 dX9_logs_69 rfl rfl ?_
    refine z_getR (r := 163) zfRX9_17 dX9_logs_70 hh0.1 rfl ?_
    refine z_sipush dX9_logs_73 (by decide) (by decide) ?_
    refine z_iald dX9_logs_76 hh0.2.2.1 (by decide) ?_
    obtain ⟨q2, h⟩ := h
    refine z_imul dX9_logs_77 q2 ?_
    obtain ⟨q3, h⟩ := h
    refine z_iadd dX9_logs_78 q3 ?_
    refine z_nam (fun y4 hy4 => ?_)
    replace h := h y4 hy4
    refine z_istore (L' := [(4, z_i y4), (0, z_r 161), (1, z_i x1), (2, z_i x2), (3, z_i x3)]) dX9_logs_79 (by decide) rfl ?_
    refine z_aload_n 1 dX9_logs_81 rfl rfl ?_
    refine z_getR (r := 163) zfRX9_17 dX9_logs_82 hh0.1 rfl ?_
    refine z_iload 0 dX9_logs_85 rfl ?_
    refine z_iload_n 2 dX9_logs_87 rfl rfl ?_
    obtain ⟨q6, h⟩ := h
    refine z_iast dX9_logs_88 hh0.2.2.1 q6 ?_
    refine z_genw (fun w5 hw5 => ?_)
    replace h := h w5 hw5
    refine z_aload_n 1 dX9_logs_89 rfl rfl ?_
    refine z_getR (r := 163) zfRX9_17 dX9_logs_90 hh0.1 rfl ?_
    refine z_iload 0 dX9_logs_93 rfl ?_
    refine z_iconst dX9_logs_95 (by decide) ?_
    obtain ⟨q7, h⟩ := h
    refine z_iadd dX9_logs_96 q7 ?_
    refine z_iload_n 3 dX9_logs_97 rfl rfl ?_
    obtain ⟨q9, h⟩ := h
    refine z_iast dX9_logs_98 hh0.2.2.1 q9 ?_
    refine z_genw (fun w8 hw8 => ?_)
    replace h := h w8 hw8
    refine z_aload_n 1 dX9_logs_99 rfl rfl ?_
    refine z_getR (r := 163) zfRX9_17 dX9_logs_100 hh0.1 rfl ?_
    refine z_iload 0 dX9_logs_103 rfl ?_
    refine z_iconst dX9_logs_105 (by decide) ?_
    obtain ⟨q10, h⟩ := h
    refine z_iadd dX9_logs_106 q10 ?_
    refine z_iload_n 4 dX9_logs_107 rfl rfl ?_
    obtain ⟨q12, h⟩ := h
    refine z_iast dX9_logs_108 hh0.2.2.1 q12 ?_
    refine z_genw (fun w11 hw11 => ?_)
    replace h := h w11 hw11
    refine z_aload_n 1 dX9_logs_109 rfl rfl ?_
    refine z_getR (r := 163) zfRX9_17 dX9_logs_110 hh0.1 rfl ?_
    refine z_sipush dX9_logs_113 (by decide) (by decide) ?_
    refine z_dup2 dX9_logs_116 rfl rfl ?_
    refine z_iald dX9_logs_117 hh0.2.2.1 (by decide) ?_
    refine z_iconst dX9_logs_118 (by decide) ?_
    obtain ⟨q13, h⟩ := h
    refine z_iadd dX9_logs_119 q13 ?_
    refine z_iast dX9_logs_120 hh0.2.2.1 (by decide) ?_
    refine z_genw (fun w14 hw14 => ?_)
    replace h := h w14 hw14
    exact z_ret (v := none) dX9_logs_121 ⟨rfl, rfl⟩ rfl rfl h
  · replace h := h.1 c1
    refine z_iconst dX9_logs_13 (by decide) ?_
    refine z_istore (L' := [(4, z_i 0), (0, z_r 161), (1, z_i x1), (2, z_i x2), (3, z_i x3)]) dX9_logs_14 (by decide) rfl ?_
    refine z_sub (L' := [(0, z_r 161), (1, z_i x1), (2, z_i x2), (3, z_i x3), (4, z_i 0)]) [1, 2, 3, 4, 0] rfl ?_
    exact h
set_option maxRecDepth 100000 in
theorem t_X9_logs_16 {sh : List z_C} {w : Nat → Int → Int} {Q : Option z_V → z_S → Prop} {x1 : Int} {x2 : Int} {x3 : Int} {x4 : Int} (hh0 : z_isMod sh 161) (h : ((117 ≤ x4 → (z_R ((w 163 143) - 1)) ∧ ∀ w3 : Nat → Int → Int, w3 = z_W w 163 143 ((w 163 143) - 1) → (z_R (3 * (w3 163 143))) ∧ (z_R (144 + (3 * (w3 163 143)))) ∧ ∀ y6 : Int, y6 = (144 + (3 * (w3 163 143))) → ((0 : Int) ≤ y6 ∧ y6 < 264) ∧ ∀ w7 : Nat → Int → Int, w7 = z_W w3 163 y6 x1 → (z_R (y6 + 1)) ∧ ((0 : Int) ≤ (y6 + 1) ∧ (y6 + 1) < 264) ∧ ∀ w10 : Nat → Int → Int, w10 = z_W w7 163 (y6 + 1) x2 → (z_R (y6 + 2)) ∧ ((0 : Int) ≤ (y6 + 2) ∧ (y6 + 2) < 264) ∧ ∀ w13 : Nat → Int → Int, w13 = z_W w10 163 (y6 + 2) x3 → (z_R ((w13 163 143) + 1)) ∧ ∀ w16 : Nat → Int → Int, w16 = z_W w13 163 143 ((w13 163 143) + 1) → Q none (sh, w16)) ∧ (¬ 117 ≤ x4 → (z_R (144 + x4)) ∧ (z_R (144 + x4)) ∧ (z_R ((144 + x4) + 3)) ∧ ((0 : Int) ≤ ((144 + x4) + 3) ∧ ((144 + x4) + 3) < 264) ∧ ((0 : Int) ≤ (144 + x4) ∧ (144 + x4) < 264) ∧ ∀ w21 : Nat → Int → Int, w21 = z_W w 163 (144 + x4) (w 163 ((144 + x4) + 3)) → (z_R (x4 + 1)) ∧ z_Sem mX9_logs (sh.length, 0) 16 [(0, z_r 161), (1, z_i x1), (2, z_i x2), (3, z_i x3), (4, z_i (x4 + 1))] [] (sh, w21) Q))) : z_Sem mX9_logs (sh.length, 0) 16 [(0, z_r 161), (1, z_i x1), (2, z_i x2), (3, z_i x3), (4, z_i x4)] [] (sh, w) Q := by
  refine z_iload 4 dX9_logs_16 rfl ?_
  refine z_bipush dX9_logs_18 (by decide) (by decide) ?_
  refine z_icmp_ge (tgt := 53) dX9_logs_20 (by decide) (fun c1 => ?_) (fun c1 => ?_)
  · replace h := h.1 c1
    refine z_aload_n 0 dX9_logs_53 rfl rfl ?_
    refine z_getR (r := 163) zfRX9_17 dX9_logs_54 hh0.1 rfl ?_
    refine z_sipush dX9_logs_57 (by decide) (by decide) ?_
    refine z_dup2 dX9_logs_60 rfl rfl ?_
    refine z_iald dX9_logs_61 hh0.2.2.1 (by decide) ?_
    refine z_iconst dX9_logs_62 (by decide) ?_
    obtain ⟨q2, h⟩ := h
    refine z_isub dX9_logs_63 q2 ?_
    refine z_iast dX9_logs_64 hh0.2.2.1 (by decide) ?_
    refine z_genw (fun w3 hw3 => ?_)
    replace h := h w3 hw3
    refine z_sipush dX9_logs_65 (by decide) (by decide) ?_
    refine z_iconst dX9_logs_68 (by decide) ?_
    refine z_aload_n 0 dX9_logs_69 rfl rfl ?_
    refine z_getR (r := 163) zfRX9_17 dX9_logs_70 hh0.1 rfl ?_
    refine z_sipush dX9_logs_73 (by decide) (by decide) ?_
    refine z_iald dX9_logs_76 hh0.2.2.1 (by decide) ?_
    obtain ⟨q4, h⟩ := h
    refine z_imul dX9_logs_77 q4 ?_
    obtain ⟨q5, h⟩ := h
    refine z_iadd dX9_logs_78 q5 ?_
    refine z_nam (fun y6 hy6 => ?_)
    replace h := h y6 hy6
    refine z_istore (L' := [(4, z_i y6), (0, z_r 161), (1, z_i x1), (2, z_i x2), (3, z_i x3)]) dX9_logs_79 (by decide) rfl ?_
    refine z_aload_n 1 dX9_logs_81 rfl rfl ?_
    refine z_getR (r := 163) zfRX9_17 dX9_logs_82 hh0.1 rfl ?_
    refine z_iload 0 dX9_logs_85 rfl ?_
    refine z_iload_n 2 dX9_logs_87 rfl rfl ?_
    obtain ⟨q8, h⟩ := h
    refine z_iast dX9_logs_88 hh0.2.2.1 q8 ?_
    refine z_genw (fun w7 hw7 => ?_)
    replace h := h w7 hw7
    refine z_aload_n 1 dX9_logs_89 rfl rfl ?_
    refine z_getR (r := 163) zfRX9_17 dX9_logs_90 hh0.1 rfl ?_
    refine z_iload 0 dX9_logs_93 rfl ?_
    refine z_iconst dX9_logs_95 (by decide) ?_
    obtain ⟨q9, h⟩ := h
    refine z_iadd dX9_logs_96 q9 ?_
    refine z_iload_n 3 dX9_logs_97 rfl rfl ?_
    obtain ⟨q11, h⟩ := h
    refine z_iast dX9_logs_98 hh0.2.2.1 q11 ?_
    refine z_genw (fun w10 hw10 => ?_)
    replace h := h w10 hw10
    refine z_aload_n 1 dX9_logs_99 rfl rfl ?_
    refine z_getR (r := 163) zfRX9_17 dX9_logs_100 hh0.1 rfl ?_
    refine z_iload 0 dX9_logs_103 rfl ?_
    refine z_iconst dX9_logs_105 (by decide) ?_
    obtain ⟨q12, h⟩ := h
    refine z_iadd dX9_logs_106 q12 ?_
    refine z_iload_n 4 dX9_logs_107 rfl rfl ?_
    obtain ⟨q14, h⟩ := h
    refine z_iast dX9_logs_108 hh0.2.2.1 q14 ?_
    refine z_genw (fun w13 hw13 => ?_)
    replace h := h w13 hw13
    refine z_aload_n 1 dX9_logs_109 rfl rfl ?_
    refine z_getR (r := 163) zfRX9_17 dX9_logs_110 hh0.1 rfl ?_
    refine z_sipush dX9_logs_113 (by decide) (by decide) ?_
    refine z_dup2 dX9_logs_116 rfl rfl ?_
    refine z_iald dX9_logs_117 hh0.2.2.1 (by decide) ?_
    refine z_iconst dX9_logs_118 (by decide) ?_
    obtain ⟨q15, h⟩ := h
    refine z_iadd dX9_logs_119 q15 ?_
    refine z_iast dX9_logs_120 hh0.2.2.1 (by decide) ?_
    refine z_genw (fun w16 hw16 => ?_)
    replace h := h w16 hw16
    exact z_ret (v := none) dX9_logs_121 ⟨rfl, rfl⟩ rfl rfl h
  · replace h := h.2 c1
    refine z_aload_n 0 dX9_logs_23 rfl rfl ?_
    refine z_getR (r := 163) zfRX9_17 dX9_logs_24 hh0.1 rfl ?_
    refine z_sipush dX9_logs_27 (by decide) (by decide) ?_
    refine z_iload 4 dX9_logs_30 rfl ?_
    obtain ⟨q17, h⟩ := h
    refine z_iadd dX9_logs_32 q17 ?_
    refine z_aload_n 0 dX9_logs_33 rfl rfl ?_
    refine z_getR (r := 163) zfRX9_17 dX9_logs_34 hh0.1 rfl ?_
    refine z_sipush dX9_logs_37 (by decide) (by decide) ?_
    refine z_iload 4 dX9_logs_40 rfl ?_
    obtain ⟨q18, h⟩ := h
    refine z_iadd dX9_logs_42 q18 ?_
    refine z_iconst dX9_logs_43 (by decide) ?_
    obtain ⟨q19, h⟩ := h
    refine z_iadd dX9_logs_44 q19 ?_
    obtain ⟨q20, h⟩ := h
    refine z_iald dX9_logs_45 hh0.2.2.1 q20 ?_
    obtain ⟨q22, h⟩ := h
    refine z_iast dX9_logs_46 hh0.2.2.1 q22 ?_
    refine z_genw (fun w21 hw21 => ?_)
    replace h := h w21 hw21
    obtain ⟨q23, h⟩ := h
    refine z_iinc (L' := [(4, z_i (x4 + 1)), (0, z_r 161), (1, z_i x1), (2, z_i x2), (3, z_i x3)]) 4 dX9_logs_47 rfl (by decide) rfl q23 ?_
    refine z_goto (tgt := 16) dX9_logs_50 (by decide) ?_
    refine z_sub (L' := [(0, z_r 161), (1, z_i x1), (2, z_i x2), (3, z_i x3), (4, z_i (x4 + 1))]) [1, 2, 3, 4, 0] rfl ?_
    exact h
def f_X9_log (w : Nat → Int → Int) (x1 : Int) (x2 : Int) : Int := if x1 < 0 then -1 else if (f_X9_in w x2 0 2) = 0 then -1 else if (w 163 143) ≤ x1 then -2 else w 163 ((144 + (3 * x1)) + x2)
def s_X9_log (w : Nat → Int → Int) (x1 : Int) (x2 : Int) : Prop := (¬ x1 < 0 → (¬ (f_X9_in w x2 0 2) = 0 → (¬ (w 163 143) ≤ x1 → (z_R (3 * x1)) ∧ (z_R (144 + (3 * x1))) ∧ (z_R ((144 + (3 * x1)) + x2)) ∧ ((0 : Int) ≤ ((144 + (3 * x1)) + x2) ∧ ((144 + (3 * x1)) + x2) < 264) ∧ True) ∧ True) ∧ True) ∧ True
set_option maxRecDepth 100000 in
theorem t_X9_log {sh : List z_C} {w : Nat → Int → Int} {Q : Option z_V → z_S → Prop} {x1 : Int} {x2 : Int} (hh0 : z_isMod sh 161) (hs : s_X9_log w x1 x2) (h : Q (some (z_i (f_X9_log w x1 x2))) (sh, w)) : z_Sem mX9_log (sh.length, 0) 0 [(0, z_r 161), (1, z_i x1), (2, z_i x2)] [] (sh, w) Q := by
  unfold f_X9_log at h
  unfold s_X9_log at hs
  refine z_iload_n 1 dX9_log_0 rfl rfl ?_
  obtain ⟨m13, hs⟩ := hs
  refine z_if_lt (tgt := 13) dX9_log_1 (by decide) (fun c1 => ?_) (fun c1 => ?_)
  · skip
    rw [if_pos c1] at h
    refine z_iconst dX9_log_13 (by decide) ?_
    exact z_ret (v := some (z_i (-1))) dX9_log_14 ⟨rfl, Or.inl rfl⟩ rfl rfl h
  · skip
    rw [if_neg c1] at h
    replace hs := m13 c1
    refine z_iload_n 2 dX9_log_4 rfl rfl ?_
    refine z_iconst dX9_log_5 (by decide) ?_
    refine z_iconst dX9_log_6 (by decide) ?_
    refine z_callS (As := [z_i x2, z_i 0, z_i 2]) (rest := []) zmX9_in ztX9_in zlRX9_65 ⟨Nat.le_of_ble_eq_true rfl, Nat.le_of_ble_eq_true rfl⟩ dX9_log_7 rfl rfl (z_ai (z_ai (z_ai z_a0))) (Nat.le_of_ble_eq_true rfl) (Nat.le_of_ble_eq_true rfl) ⟨Nat.le_refl _, Nat.le_refl _⟩ ?_
    refine t_X9_in  ?_
    show z_Sem mX9_log (sh.length, 0) 10 [(0, z_r 161), (1, z_i x1), (2, z_i x2)] [z_i (f_X9_in w x2 0 2)] (sh, w) Q
    obtain ⟨m12, hs⟩ := hs
    refine z_if_ne (tgt := 15) dX9_log_10 (by decide) (fun c2 => ?_) (fun c2 => ?_)
    · skip
      rw [if_neg c2] at h
      replace hs := m12 c2
      refine z_iload_n 1 dX9_log_15 rfl rfl ?_
      refine z_aload_n 0 dX9_log_16 rfl rfl ?_
      refine z_getR (r := 163) zfRX9_17 dX9_log_17 hh0.1 rfl ?_
      refine z_sipush dX9_log_20 (by decide) (by decide) ?_
      refine z_iald dX9_log_23 hh0.2.2.1 (by decide) ?_
      obtain ⟨m5, hs⟩ := hs
      suffices hJ3 : z_Sem mX9_log (sh.length, 0) 46 [] [z_i (if (w 163 143) ≤ x1 then -2 else w 163 ((144 + (3 * x1)) + x2))] (sh, w) Q by
        refine z_icmp_ge (tgt := 44) dX9_log_24 (by decide) (fun c4 => ?_) (fun c4 => ?_)
        · skip
          refine z_bipush dX9_log_44 (by decide) (by decide) ?_
          refine z_sub (L' := []) [] rfl ?_
          simp only [if_pos c4] at hJ3
          exact hJ3
        · skip
          have ho7 := m5 c4
          refine z_aload_n 0 dX9_log_27 rfl rfl ?_
          refine z_getR (r := 163) zfRX9_17 dX9_log_28 hh0.1 rfl ?_
          refine z_sipush dX9_log_31 (by decide) (by decide) ?_
          refine z_iconst dX9_log_34 (by decide) ?_
          refine z_iload_n 1 dX9_log_35 rfl rfl ?_
          obtain ⟨q8, ho7⟩ := ho7
          refine z_imul dX9_log_36 q8 ?_
          obtain ⟨q9, ho7⟩ := ho7
          refine z_iadd dX9_log_37 q9 ?_
          refine z_iload_n 2 dX9_log_38 rfl rfl ?_
          obtain ⟨q10, ho7⟩ := ho7
          refine z_iadd dX9_log_39 q10 ?_
          obtain ⟨q11, ho7⟩ := ho7
          refine z_iald dX9_log_40 hh0.2.2.1 q11 ?_
          refine z_goto (tgt := 46) dX9_log_41 (by decide) ?_
          refine z_sub (L' := []) [] rfl ?_
          simp only [if_neg c4] at hJ3
          exact hJ3
      exact z_ret (v := some (z_i (if (w 163 143) ≤ x1 then -2 else w 163 ((144 + (3 * x1)) + x2)))) dX9_log_46 ⟨rfl, Or.inl rfl⟩ rfl rfl h
    · skip
      rw [if_pos c2] at h
      refine z_iconst dX9_log_13 (by decide) ?_
      exact z_ret (v := some (z_i (-1))) dX9_log_14 ⟨rfl, Or.inl rfl⟩ rfl rfl h
def f_X9_of (w : Nat → Int → Int) (x1 : Int) (x2 : Int) : Int := w 163 ((13 + (5 * x1)) + x2)
def s_X9_of (w : Nat → Int → Int) (x1 : Int) (x2 : Int) : Prop := (z_R (5 * x1)) ∧ (z_R (13 + (5 * x1))) ∧ (z_R ((13 + (5 * x1)) + x2)) ∧ ((0 : Int) ≤ ((13 + (5 * x1)) + x2) ∧ ((13 + (5 * x1)) + x2) < 264) ∧ True
set_option maxRecDepth 100000 in
theorem t_X9_of {sh : List z_C} {w : Nat → Int → Int} {Q : Option z_V → z_S → Prop} {x1 : Int} {x2 : Int} (hh0 : z_isMod sh 161) (hs : s_X9_of w x1 x2) (h : Q (some (z_i (f_X9_of w x1 x2))) (sh, w)) : z_Sem mX9_of (sh.length, 0) 0 [(0, z_r 161), (1, z_i x1), (2, z_i x2)] [] (sh, w) Q := by
  unfold f_X9_of at h
  unfold s_X9_of at hs
  refine z_aload_n 0 dX9_of_0 rfl rfl ?_
  refine z_getR (r := 163) zfRX9_17 dX9_of_1 hh0.1 rfl ?_
  refine z_bipush dX9_of_4 (by decide) (by decide) ?_
  refine z_iconst dX9_of_6 (by decide) ?_
  refine z_iload_n 1 dX9_of_7 rfl rfl ?_
  obtain ⟨q1, hs⟩ := hs
  refine z_imul dX9_of_8 q1 ?_
  obtain ⟨q2, hs⟩ := hs
  refine z_iadd dX9_of_9 q2 ?_
  refine z_iload_n 2 dX9_of_10 rfl rfl ?_
  obtain ⟨q3, hs⟩ := hs
  refine z_iadd dX9_of_11 q3 ?_
  obtain ⟨q4, hs⟩ := hs
  refine z_iald dX9_of_12 hh0.2.2.1 q4 ?_
  exact z_ret (v := some (z_i (w 163 ((13 + (5 * x1)) + x2)))) dX9_of_13 ⟨rfl, Or.inl rfl⟩ rfl rfl h
set_option maxRecDepth 100000 in
theorem t_X9_puts {sh : List z_C} {w : Nat → Int → Int} {Q : Option z_V → z_S → Prop} {x1 : Int} {x2 : Int} {x3 : Int} (hh0 : z_isMod sh 161) (h : (z_R (5 * x1)) ∧ (z_R (13 + (5 * x1))) ∧ (z_R ((13 + (5 * x1)) + x2)) ∧ ((0 : Int) ≤ ((13 + (5 * x1)) + x2) ∧ ((13 + (5 * x1)) + x2) < 264) ∧ ∀ w4 : Nat → Int → Int, w4 = z_W w 163 ((13 + (5 * x1)) + x2) x3 → Q none (sh, w4)) : z_Sem mX9_puts (sh.length, 0) 0 [(0, z_r 161), (1, z_i x1), (2, z_i x2), (3, z_i x3)] [] (sh, w) Q := by
  refine z_aload_n 0 dX9_puts_0 rfl rfl ?_
  refine z_getR (r := 163) zfRX9_17 dX9_puts_1 hh0.1 rfl ?_
  refine z_bipush dX9_puts_4 (by decide) (by decide) ?_
  refine z_iconst dX9_puts_6 (by decide) ?_
  refine z_iload_n 1 dX9_puts_7 rfl rfl ?_
  obtain ⟨q1, h⟩ := h
  refine z_imul dX9_puts_8 q1 ?_
  obtain ⟨q2, h⟩ := h
  refine z_iadd dX9_puts_9 q2 ?_
  refine z_iload_n 2 dX9_puts_10 rfl rfl ?_
  obtain ⟨q3, h⟩ := h
  refine z_iadd dX9_puts_11 q3 ?_
  refine z_iload_n 3 dX9_puts_12 rfl rfl ?_
  obtain ⟨q5, h⟩ := h
  refine z_iast dX9_puts_13 hh0.2.2.1 q5 ?_
  refine z_genw (fun w4 hw4 => ?_)
  replace h := h w4 hw4
  exact z_ret (v := none) dX9_puts_14 ⟨rfl, rfl⟩ rfl rfl h
def f_X9_isOn (w : Nat → Int → Int) (x1 : Int) : Int := if (f_X9_of w x1 4) = 1 then 1 else 0
def s_X9_isOn (w : Nat → Int → Int) (x1 : Int) : Prop := (s_X9_of w x1 4) ∧ True
set_option maxRecDepth 100000 in
theorem t_X9_isOn {sh : List z_C} {w : Nat → Int → Int} {Q : Option z_V → z_S → Prop} {x1 : Int} (hh0 : z_isMod sh 161) (hs : s_X9_isOn w x1) (h : Q (some (z_i (f_X9_isOn w x1))) (sh, w)) : z_Sem mX9_isOn (sh.length, 0) 0 [(0, z_r 161), (1, z_i x1)] [] (sh, w) Q := by
  unfold f_X9_isOn at h
  unfold s_X9_isOn at hs
  refine z_aload_n 0 dX9_isOn_0 rfl rfl ?_
  refine z_iload_n 1 dX9_isOn_1 rfl rfl ?_
  refine z_iconst dX9_isOn_2 (by decide) ?_
  obtain ⟨q1, hs⟩ := hs
  refine z_callV (As := [z_i x1, z_i 4]) (rest := []) zmX9_of znX9_of zsX9_of (show vwCl[9]? = some (RX9, TX9, 29) from rfl) zlRX9_76 ⟨Nat.le_of_ble_eq_true rfl, Nat.le_of_ble_eq_true rfl⟩ dX9_isOn_3 hh0.1 rfl rfl (z_ai (z_ai z_a0)) (Nat.le_of_ble_eq_true rfl) (Nat.le_of_ble_eq_true rfl) ⟨Nat.le_refl _, Nat.le_refl _⟩ ?_
  refine t_X9_of hh0 q1 ?_
  show z_Sem mX9_isOn (sh.length, 0) 6 [(0, z_r 161), (1, z_i x1)] [z_i (f_X9_of w x1 4)] (sh, w) Q
  refine z_iconst dX9_isOn_6 (by decide) ?_
  suffices hJ2 : z_Sem mX9_isOn (sh.length, 0) 15 [] [z_i (if (f_X9_of w x1 4) = 1 then 1 else 0)] (sh, w) Q by
    refine z_icmp_ne (tgt := 14) dX9_isOn_7 (by decide) (fun c3 => ?_) (fun c3 => ?_)
    · skip
      refine z_iconst dX9_isOn_14 (by decide) ?_
      refine z_sub (L' := []) [] rfl ?_
      simp only [if_neg c3] at hJ2
      exact hJ2
    · skip
      refine z_iconst dX9_isOn_10 (by decide) ?_
      refine z_goto (tgt := 15) dX9_isOn_11 (by decide) ?_
      refine z_sub (L' := []) [] rfl ?_
      simp only [if_pos c3] at hJ2
      exact hJ2
  exact z_ret (v := some (z_i (if (f_X9_of w x1 4) = 1 then 1 else 0))) dX9_isOn_15 ⟨rfl, Or.inr (Or.inl ⟨rfl, (z_it01 (by decide) (by decide))⟩)⟩ rfl rfl h
def f_X9_isEvent (w : Nat → Int → Int) (x1 : Int) : Int := f_X9_in w x1 0 ((w 163 1) - 1)
def s_X9_isEvent (w : Nat → Int → Int) (x1 : Int) : Prop := (z_R ((w 163 1) - 1)) ∧ ((0 : Int) ≤ (f_X9_in w x1 0 ((w 163 1) - 1)) ∧ (f_X9_in w x1 0 ((w 163 1) - 1)) ≤ 1) ∧ True
set_option maxRecDepth 100000 in
theorem t_X9_isEvent {sh : List z_C} {w : Nat → Int → Int} {Q : Option z_V → z_S → Prop} {x1 : Int} (hh0 : z_isMod sh 161) (hs : s_X9_isEvent w x1) (h : Q (some (z_i (f_X9_isEvent w x1))) (sh, w)) : z_Sem mX9_isEvent (sh.length, 0) 0 [(0, z_r 161), (1, z_i x1)] [] (sh, w) Q := by
  unfold f_X9_isEvent at h
  unfold s_X9_isEvent at hs
  refine z_iload_n 1 dX9_isEvent_0 rfl rfl ?_
  refine z_iconst dX9_isEvent_1 (by decide) ?_
  refine z_aload_n 0 dX9_isEvent_2 rfl rfl ?_
  refine z_getR (r := 163) zfRX9_17 dX9_isEvent_3 hh0.1 rfl ?_
  refine z_iconst dX9_isEvent_6 (by decide) ?_
  refine z_iald dX9_isEvent_7 hh0.2.2.1 (by decide) ?_
  refine z_iconst dX9_isEvent_8 (by decide) ?_
  obtain ⟨q1, hs⟩ := hs
  refine z_isub dX9_isEvent_9 q1 ?_
  refine z_callS (As := [z_i x1, z_i 0, z_i ((w 163 1) - 1)]) (rest := []) zmX9_in ztX9_in zlRX9_65 ⟨Nat.le_of_ble_eq_true rfl, Nat.le_of_ble_eq_true rfl⟩ dX9_isEvent_10 rfl rfl (z_ai (z_ai (z_ai z_a0))) (Nat.le_of_ble_eq_true rfl) (Nat.le_of_ble_eq_true rfl) ⟨Nat.le_refl _, Nat.le_refl _⟩ ?_
  refine t_X9_in  ?_
  show z_Sem mX9_isEvent (sh.length, 0) 13 [(0, z_r 161), (1, z_i x1)] [z_i (f_X9_in w x1 0 ((w 163 1) - 1))] (sh, w) Q
  obtain ⟨q2, hs⟩ := hs
  exact z_ret (v := some (z_i (f_X9_in w x1 0 ((w 163 1) - 1)))) dX9_isEvent_13 ⟨rfl, Or.inr (Or.inl ⟨rfl, q2⟩)⟩ rfl rfl h
def f_X9_isGap (w : Nat → Int → Int) (x1 : Int) : Int := f_X9_in w x1 0 ((w 163 2) - 1)
def s_X9_isGap (w : Nat → Int → Int) (x1 : Int) : Prop := (z_R ((w 163 2) - 1)) ∧ ((0 : Int) ≤ (f_X9_in w x1 0 ((w 163 2) - 1)) ∧ (f_X9_in w x1 0 ((w 163 2) - 1)) ≤ 1) ∧ True
set_option maxRecDepth 100000 in
theorem t_X9_isGap {sh : List z_C} {w : Nat → Int → Int} {Q : Option z_V → z_S → Prop} {x1 : Int} (hh0 : z_isMod sh 161) (hs : s_X9_isGap w x1) (h : Q (some (z_i (f_X9_isGap w x1))) (sh, w)) : z_Sem mX9_isGap (sh.length, 0) 0 [(0, z_r 161), (1, z_i x1)] [] (sh, w) Q := by
  unfold f_X9_isGap at h
  unfold s_X9_isGap at hs
  refine z_iload_n 1 dX9_isGap_0 rfl rfl ?_
  refine z_iconst dX9_isGap_1 (by decide) ?_
  refine z_aload_n 0 dX9_isGap_2 rfl rfl ?_
  refine z_getR (r := 163) zfRX9_17 dX9_isGap_3 hh0.1 rfl ?_
  refine z_iconst dX9_isGap_6 (by decide) ?_
  refine z_iald dX9_isGap_7 hh0.2.2.1 (by decide) ?_
  refine z_iconst dX9_isGap_8 (by decide) ?_
  obtain ⟨q1, hs⟩ := hs
  refine z_isub dX9_isGap_9 q1 ?_
  refine z_callS (As := [z_i x1, z_i 0, z_i ((w 163 2) - 1)]) (rest := []) zmX9_in ztX9_in zlRX9_65 ⟨Nat.le_of_ble_eq_true rfl, Nat.le_of_ble_eq_true rfl⟩ dX9_isGap_10 rfl rfl (z_ai (z_ai (z_ai z_a0))) (Nat.le_of_ble_eq_true rfl) (Nat.le_of_ble_eq_true rfl) ⟨Nat.le_refl _, Nat.le_refl _⟩ ?_
  refine t_X9_in  ?_
  show z_Sem mX9_isGap (sh.length, 0) 13 [(0, z_r 161), (1, z_i x1)] [z_i (f_X9_in w x1 0 ((w 163 2) - 1))] (sh, w) Q
  obtain ⟨q2, hs⟩ := hs
  exact z_ret (v := some (z_i (f_X9_in w x1 0 ((w 163 2) - 1)))) dX9_isGap_13 ⟨rfl, Or.inr (Or.inl ⟨rfl, q2⟩)⟩ rfl rfl h
def f_X9_isPinned (w : Nat → Int → Int) (x1 : Int) : Int := if (w 163 (133 + x1)) ≤ 0 then 0 else 1
def s_X9_isPinned (w : Nat → Int → Int) (x1 : Int) : Prop := (z_R (133 + x1)) ∧ ((0 : Int) ≤ (133 + x1) ∧ (133 + x1) < 264) ∧ True
set_option maxRecDepth 100000 in
theorem t_X9_isPinned {sh : List z_C} {w : Nat → Int → Int} {Q : Option z_V → z_S → Prop} {x1 : Int} (hh0 : z_isMod sh 161) (hs : s_X9_isPinned w x1) (h : Q (some (z_i (f_X9_isPinned w x1))) (sh, w)) : z_Sem mX9_isPinned (sh.length, 0) 0 [(0, z_r 161), (1, z_i x1)] [] (sh, w) Q := by
  unfold f_X9_isPinned at h
  unfold s_X9_isPinned at hs
  refine z_aload_n 0 dX9_isPinned_0 rfl rfl ?_
  refine z_getR (r := 163) zfRX9_17 dX9_isPinned_1 hh0.1 rfl ?_
  refine z_sipush dX9_isPinned_4 (by decide) (by decide) ?_
  refine z_iload_n 1 dX9_isPinned_7 rfl rfl ?_
  obtain ⟨q1, hs⟩ := hs
  refine z_iadd dX9_isPinned_8 q1 ?_
  obtain ⟨q2, hs⟩ := hs
  refine z_iald dX9_isPinned_9 hh0.2.2.1 q2 ?_
  suffices hJ3 : z_Sem mX9_isPinned (sh.length, 0) 18 [] [z_i (if (w 163 (133 + x1)) ≤ 0 then 0 else 1)] (sh, w) Q by
    refine z_if_le (tgt := 17) dX9_isPinned_10 (by decide) (fun c4 => ?_) (fun c4 => ?_)
    · skip
      refine z_iconst dX9_isPinned_17 (by decide) ?_
      refine z_sub (L' := []) [] rfl ?_
      simp only [if_pos c4] at hJ3
      exact hJ3
    · skip
      refine z_iconst dX9_isPinned_13 (by decide) ?_
      refine z_goto (tgt := 18) dX9_isPinned_14 (by decide) ?_
      refine z_sub (L' := []) [] rfl ?_
      simp only [if_neg c4] at hJ3
      exact hJ3
  exact z_ret (v := some (z_i (if (w 163 (133 + x1)) ≤ 0 then 0 else 1))) dX9_isPinned_18 ⟨rfl, Or.inr (Or.inl ⟨rfl, (z_it01 (by decide) (by decide))⟩)⟩ rfl rfl h
def f_X9_isN (w : Nat → Int → Int) (x0 : Int) (x1 : Int) : Int := if (f_X9_in w x0 0 1) = 0 then 0 else if (f_X9_in w x1 0 999) = 0 then 0 else 1
set_option maxRecDepth 100000 in
theorem t_X9_isN {sh : List z_C} {w : Nat → Int → Int} {Q : Option z_V → z_S → Prop} {x0 : Int} {x1 : Int}  (h : Q (some (z_i (f_X9_isN w x0 x1))) (sh, w)) : z_Sem mX9_isN (sh.length, 0) 0 [(0, z_i x0), (1, z_i x1)] [] (sh, w) Q := by
  unfold f_X9_isN at h
  refine z_iload_n 0 dX9_isN_0 rfl rfl ?_
  refine z_iconst dX9_isN_1 (by decide) ?_
  refine z_iconst dX9_isN_2 (by decide) ?_
  refine z_callS (As := [z_i x0, z_i 0, z_i 1]) (rest := []) zmX9_in ztX9_in zlRX9_65 ⟨Nat.le_of_ble_eq_true rfl, Nat.le_of_ble_eq_true rfl⟩ dX9_isN_3 rfl rfl (z_ai (z_ai (z_ai z_a0))) (Nat.le_of_ble_eq_true rfl) (Nat.le_of_ble_eq_true rfl) ⟨Nat.le_refl _, Nat.le_refl _⟩ ?_
  refine t_X9_in  ?_
  show z_Sem mX9_isN (sh.length, 0) 6 [(0, z_i x0), (1, z_i x1)] [z_i (f_X9_in w x0 0 1)] (sh, w) Q
  suffices hJ1 : z_Sem mX9_isN (sh.length, 0) 25 [] [z_i (if (f_X9_in w x0 0 1) = 0 then 0 else if (f_X9_in w x1 0 999) = 0 then 0 else 1)] (sh, w) Q by
    refine z_if_eq (tgt := 24) dX9_isN_6 (by decide) (fun c2 => ?_) (fun c2 => ?_)
    · skip
      refine z_iconst dX9_isN_24 (by decide) ?_
      refine z_sub (L' := []) [] rfl ?_
      simp only [if_pos c2] at hJ1
      exact hJ1
    · skip
      refine z_iload_n 1 dX9_isN_9 rfl rfl ?_
      refine z_iconst dX9_isN_10 (by decide) ?_
      refine z_sipush dX9_isN_11 (by decide) (by decide) ?_
      refine z_callS (As := [z_i x1, z_i 0, z_i 999]) (rest := []) zmX9_in ztX9_in zlRX9_65 ⟨Nat.le_of_ble_eq_true rfl, Nat.le_of_ble_eq_true rfl⟩ dX9_isN_14 rfl rfl (z_ai (z_ai (z_ai z_a0))) (Nat.le_of_ble_eq_true rfl) (Nat.le_of_ble_eq_true rfl) ⟨Nat.le_refl _, Nat.le_refl _⟩ ?_
      refine t_X9_in  ?_
      show z_Sem mX9_isN (sh.length, 0) 17 [(0, z_i x0), (1, z_i x1)] [z_i (f_X9_in w x1 0 999)] (sh, w) Q
      suffices hJ5 : z_Sem mX9_isN (sh.length, 0) 25 [] [z_i (if (f_X9_in w x1 0 999) = 0 then 0 else 1)] (sh, w) Q by
        refine z_if_eq (tgt := 24) dX9_isN_17 (by decide) (fun c6 => ?_) (fun c6 => ?_)
        · skip
          refine z_iconst dX9_isN_24 (by decide) ?_
          refine z_sub (L' := []) [] rfl ?_
          simp only [if_pos c6] at hJ5
          exact hJ5
        · skip
          refine z_iconst dX9_isN_20 (by decide) ?_
          refine z_goto (tgt := 25) dX9_isN_21 (by decide) ?_
          refine z_sub (L' := []) [] rfl ?_
          simp only [if_neg c6] at hJ5
          exact hJ5
      simp only [if_neg c2] at hJ1
      exact hJ1
  exact z_ret (v := some (z_i (if (f_X9_in w x0 0 1) = 0 then 0 else if (f_X9_in w x1 0 999) = 0 then 0 else 1))) dX9_isN_25 ⟨rfl, Or.inr (Or.inl ⟨rfl, (z_it01 (by decide) (z_it01 (by decide) (by decide)))⟩)⟩ rfl rfl h
def f_X9_areTwo (w : Nat → Int → Int) (x1 : Int) (x2 : Int) : Int := if (f_X9_isEvent w x1) = 0 then 0 else if (f_X9_isEvent w x2) = 0 then 0 else if x1 = x2 then 0 else 1
def s_X9_areTwo (w : Nat → Int → Int) (x1 : Int) (x2 : Int) : Prop := (s_X9_isEvent w x1) ∧ (¬ (f_X9_isEvent w x1) = 0 → (s_X9_isEvent w x2) ∧ True) ∧ True
set_option maxRecDepth 100000 in
theorem t_X9_areTwo {sh : List z_C} {w : Nat → Int → Int} {Q : Option z_V → z_S → Prop} {x1 : Int} {x2 : Int} (hh0 : z_isMod sh 161) (hs : s_X9_areTwo w x1 x2) (h : Q (some (z_i (f_X9_areTwo w x1 x2))) (sh, w)) : z_Sem mX9_areTwo (sh.length, 0) 0 [(0, z_r 161), (1, z_i x1), (2, z_i x2)] [] (sh, w) Q := by
  unfold f_X9_areTwo at h
  unfold s_X9_areTwo at hs
  refine z_aload_n 0 dX9_areTwo_0 rfl rfl ?_
  refine z_iload_n 1 dX9_areTwo_1 rfl rfl ?_
  obtain ⟨q1, hs⟩ := hs
  refine z_callV (As := [z_i x1]) (rest := []) zmX9_isEvent znX9_isEvent zsX9_isEvent (show vwCl[9]? = some (RX9, TX9, 29) from rfl) zlRX9_80 ⟨Nat.le_of_ble_eq_true rfl, Nat.le_of_ble_eq_true rfl⟩ dX9_areTwo_2 hh0.1 rfl rfl (z_ai z_a0) (Nat.le_of_ble_eq_true rfl) (Nat.le_of_ble_eq_true rfl) ⟨Nat.le_refl _, Nat.le_refl _⟩ ?_
  refine t_X9_isEvent hh0 q1 ?_
  show z_Sem mX9_areTwo (sh.length, 0) 5 [(0, z_r 161), (1, z_i x1), (2, z_i x2)] [z_i (f_X9_isEvent w x1)] (sh, w) Q
  obtain ⟨m4, hs⟩ := hs
  suffices hJ2 : z_Sem mX9_areTwo (sh.length, 0) 26 [] [z_i (if (f_X9_isEvent w x1) = 0 then 0 else if (f_X9_isEvent w x2) = 0 then 0 else if x1 = x2 then 0 else 1)] (sh, w) Q by
    refine z_if_eq (tgt := 25) dX9_areTwo_5 (by decide) (fun c3 => ?_) (fun c3 => ?_)
    · skip
      refine z_iconst dX9_areTwo_25 (by decide) ?_
      refine z_sub (L' := []) [] rfl ?_
      simp only [if_pos c3] at hJ2
      exact hJ2
    · skip
      have ho6 := m4 c3
      refine z_aload_n 0 dX9_areTwo_8 rfl rfl ?_
      refine z_iload_n 2 dX9_areTwo_9 rfl rfl ?_
      obtain ⟨q7, ho6⟩ := ho6
      refine z_callV (As := [z_i x2]) (rest := []) zmX9_isEvent znX9_isEvent zsX9_isEvent (show vwCl[9]? = some (RX9, TX9, 29) from rfl) zlRX9_80 ⟨Nat.le_of_ble_eq_true rfl, Nat.le_of_ble_eq_true rfl⟩ dX9_areTwo_10 hh0.1 rfl rfl (z_ai z_a0) (Nat.le_of_ble_eq_true rfl) (Nat.le_of_ble_eq_true rfl) ⟨Nat.le_refl _, Nat.le_refl _⟩ ?_
      refine t_X9_isEvent hh0 q7 ?_
      show z_Sem mX9_areTwo (sh.length, 0) 13 [(0, z_r 161), (1, z_i x1), (2, z_i x2)] [z_i (f_X9_isEvent w x2)] (sh, w) Q
      suffices hJ8 : z_Sem mX9_areTwo (sh.length, 0) 26 [] [z_i (if (f_X9_isEvent w x2) = 0 then 0 else if x1 = x2 then 0 else 1)] (sh, w) Q by
        refine z_if_eq (tgt := 25) dX9_areTwo_13 (by decide) (fun c9 => ?_) (fun c9 => ?_)
        · skip
          refine z_iconst dX9_areTwo_25 (by decide) ?_
          refine z_sub (L' := []) [] rfl ?_
          simp only [if_pos c9] at hJ8
          exact hJ8
        · skip
          refine z_iload_n 1 dX9_areTwo_16 rfl rfl ?_
          refine z_iload_n 2 dX9_areTwo_17 rfl rfl ?_
          suffices hJ12 : z_Sem mX9_areTwo (sh.length, 0) 26 [] [z_i (if x1 = x2 then 0 else 1)] (sh, w) Q by
            refine z_icmp_eq (tgt := 25) dX9_areTwo_18 (by decide) (fun c13 => ?_) (fun c13 => ?_)
            · skip
              refine z_iconst dX9_areTwo_25 (by decide) ?_
              refine z_sub (L' := []) [] rfl ?_
              simp only [if_pos c13] at hJ12
              exact hJ12
            · skip
              refine z_iconst dX9_areTwo_21 (by decide) ?_
              refine z_goto (tgt := 26) dX9_areTwo_22 (by decide) ?_
              refine z_sub (L' := []) [] rfl ?_
              simp only [if_neg c13] at hJ12
              exact hJ12
          simp only [if_neg c9] at hJ8
          exact hJ8
      simp only [if_neg c3] at hJ2
      exact hJ2
  exact z_ret (v := some (z_i (if (f_X9_isEvent w x1) = 0 then 0 else if (f_X9_isEvent w x2) = 0 then 0 else if x1 = x2 then 0 else 1))) dX9_areTwo_26 ⟨rfl, Or.inr (Or.inl ⟨rfl, (z_it01 (by decide) (z_it01 (by decide) (z_it01 (by decide) (by decide))))⟩)⟩ rfl rfl h
def f_X9_fromOf (w : Nat → Int → Int) (x1 : Int) : Int := f_X9_of w x1 (if (f_X9_of w x1 2) = 0 then 0 else 1)
def s_X9_fromOf (w : Nat → Int → Int) (x1 : Int) : Prop := (s_X9_of w x1 2) ∧ (s_X9_of w x1 (if (f_X9_of w x1 2) = 0 then 0 else 1)) ∧ True
set_option maxRecDepth 100000 in
theorem t_X9_fromOf {sh : List z_C} {w : Nat → Int → Int} {Q : Option z_V → z_S → Prop} {x1 : Int} (hh0 : z_isMod sh 161) (hs : s_X9_fromOf w x1) (h : Q (some (z_i (f_X9_fromOf w x1))) (sh, w)) : z_Sem mX9_fromOf (sh.length, 0) 0 [(0, z_r 161), (1, z_i x1)] [] (sh, w) Q := by
  unfold f_X9_fromOf at h
  unfold s_X9_fromOf at hs
  refine z_aload_n 0 dX9_fromOf_0 rfl rfl ?_
  refine z_iload_n 1 dX9_fromOf_1 rfl rfl ?_
  refine z_aload_n 0 dX9_fromOf_2 rfl rfl ?_
  refine z_iload_n 1 dX9_fromOf_3 rfl rfl ?_
  refine z_iconst dX9_fromOf_4 (by decide) ?_
  obtain ⟨q1, hs⟩ := hs
  refine z_callV (As := [z_i x1, z_i 2]) (rest := [z_i x1, z_r 161]) zmX9_of znX9_of zsX9_of (show vwCl[9]? = some (RX9, TX9, 29) from rfl) zlRX9_76 ⟨Nat.le_of_ble_eq_true rfl, Nat.le_of_ble_eq_true rfl⟩ dX9_fromOf_5 hh0.1 rfl rfl (z_ai (z_ai z_a0)) (Nat.le_of_ble_eq_true rfl) (Nat.le_of_ble_eq_true rfl) ⟨Nat.le_refl _, Nat.le_refl _⟩ ?_
  refine t_X9_of hh0 q1 ?_
  show z_Sem mX9_fromOf (sh.length, 0) 8 [(0, z_r 161), (1, z_i x1)] [z_i (f_X9_of w x1 2), z_i x1, z_r 161] (sh, w) Q
  suffices hJ2 : z_Sem mX9_fromOf (sh.length, 0) 16 [] [z_i (if (f_X9_of w x1 2) = 0 then 0 else 1), z_i x1, z_r 161] (sh, w) Q by
    refine z_if_ne (tgt := 15) dX9_fromOf_8 (by decide) (fun c3 => ?_) (fun c3 => ?_)
    · skip
      refine z_iconst dX9_fromOf_15 (by decide) ?_
      refine z_sub (L' := []) [] rfl ?_
      simp only [if_neg c3] at hJ2
      exact hJ2
    · skip
      refine z_iconst dX9_fromOf_11 (by decide) ?_
      refine z_goto (tgt := 16) dX9_fromOf_12 (by decide) ?_
      refine z_sub (L' := []) [] rfl ?_
      simp only [if_pos c3] at hJ2
      exact hJ2
  obtain ⟨q6, hs⟩ := hs
  refine z_callV (As := [z_i x1, z_i (if (f_X9_of w x1 2) = 0 then 0 else 1)]) (rest := []) zmX9_of znX9_of zsX9_of (show vwCl[9]? = some (RX9, TX9, 29) from rfl) zlRX9_76 ⟨Nat.le_of_ble_eq_true rfl, Nat.le_of_ble_eq_true rfl⟩ dX9_fromOf_16 hh0.1 rfl rfl (z_ai (z_ai z_a0)) (Nat.le_of_ble_eq_true rfl) (Nat.le_of_ble_eq_true rfl) ⟨Nat.le_refl _, Nat.le_refl _⟩ ?_
  refine t_X9_of hh0 q6 ?_
  show z_Sem mX9_fromOf (sh.length, 0) 19 [] [z_i (f_X9_of w x1 (if (f_X9_of w x1 2) = 0 then 0 else 1))] (sh, w) Q
  exact z_ret (v := some (z_i (f_X9_of w x1 (if (f_X9_of w x1 2) = 0 then 0 else 1)))) dX9_fromOf_19 ⟨rfl, Or.inl rfl⟩ rfl rfl h
def f_X9_toOf (w : Nat → Int → Int) (x1 : Int) : Int := f_X9_of w x1 (if (f_X9_of w x1 2) = 0 then 1 else 0)
def s_X9_toOf (w : Nat → Int → Int) (x1 : Int) : Prop := (s_X9_of w x1 2) ∧ (s_X9_of w x1 (if (f_X9_of w x1 2) = 0 then 1 else 0)) ∧ True
set_option maxRecDepth 100000 in
theorem t_X9_toOf {sh : List z_C} {w : Nat → Int → Int} {Q : Option z_V → z_S → Prop} {x1 : Int} (hh0 : z_isMod sh 161) (hs : s_X9_toOf w x1) (h : Q (some (z_i (f_X9_toOf w x1))) (sh, w)) : z_Sem mX9_toOf (sh.length, 0) 0 [(0, z_r 161), (1, z_i x1)] [] (sh, w) Q := by
  unfold f_X9_toOf at h
  unfold s_X9_toOf at hs
  refine z_aload_n 0 dX9_toOf_0 rfl rfl ?_
  refine z_iload_n 1 dX9_toOf_1 rfl rfl ?_
  refine z_aload_n 0 dX9_toOf_2 rfl rfl ?_
  refine z_iload_n 1 dX9_toOf_3 rfl rfl ?_
  refine z_iconst dX9_toOf_4 (by decide) ?_
  obtain ⟨q1, hs⟩ := hs
  refine z_callV (As := [z_i x1, z_i 2]) (rest := [z_i x1, z_r 161]) zmX9_of znX9_of zsX9_of (show vwCl[9]? = some (RX9, TX9, 29) from rfl) zlRX9_76 ⟨Nat.le_of_ble_eq_true rfl, Nat.le_of_ble_eq_true rfl⟩ dX9_toOf_5 hh0.1 rfl rfl (z_ai (z_ai z_a0)) (Nat.le_of_ble_eq_true rfl) (Nat.le_of_ble_eq_true rfl) ⟨Nat.le_refl _, Nat.le_refl _⟩ ?_
  refine t_X9_of hh0 q1 ?_
  show z_Sem mX9_toOf (sh.length, 0) 8 [(0, z_r 161), (1, z_i x1)] [z_i (f_X9_of w x1 2), z_i x1, z_r 161] (sh, w) Q
  suffices hJ2 : z_Sem mX9_toOf (sh.length, 0) 16 [] [z_i (if (f_X9_of w x1 2) = 0 then 1 else 0), z_i x1, z_r 161] (sh, w) Q by
    refine z_if_ne (tgt := 15) dX9_toOf_8 (by decide) (fun c3 => ?_) (fun c3 => ?_)
    · skip
      refine z_iconst dX9_toOf_15 (by decide) ?_
      refine z_sub (L' := []) [] rfl ?_
      simp only [if_neg c3] at hJ2
      exact hJ2
    · skip
      refine z_iconst dX9_toOf_11 (by decide) ?_
      refine z_goto (tgt := 16) dX9_toOf_12 (by decide) ?_
      refine z_sub (L' := []) [] rfl ?_
      simp only [if_pos c3] at hJ2
      exact hJ2
  obtain ⟨q6, hs⟩ := hs
  refine z_callV (As := [z_i x1, z_i (if (f_X9_of w x1 2) = 0 then 1 else 0)]) (rest := []) zmX9_of znX9_of zsX9_of (show vwCl[9]? = some (RX9, TX9, 29) from rfl) zlRX9_76 ⟨Nat.le_of_ble_eq_true rfl, Nat.le_of_ble_eq_true rfl⟩ dX9_toOf_16 hh0.1 rfl rfl (z_ai (z_ai z_a0)) (Nat.le_of_ble_eq_true rfl) (Nat.le_of_ble_eq_true rfl) ⟨Nat.le_refl _, Nat.le_refl _⟩ ?_
  refine t_X9_of hh0 q6 ?_
  show z_Sem mX9_toOf (sh.length, 0) 19 [] [z_i (f_X9_of w x1 (if (f_X9_of w x1 2) = 0 then 1 else 0))] (sh, w) Q
  exact z_ret (v := some (z_i (f_X9_of w x1 (if (f_X9_of w x1 2) = 0 then 1 else 0)))) dX9_toOf_19 ⟨rfl, Or.inl rfl⟩ rfl rfl h
def f_X9_lengthOf (w : Nat → Int → Int) (x1 : Int) : Int := if (f_X9_of w x1 2) = 0 then f_X9_of w x1 3 else -(f_X9_of w x1 3)
def s_X9_lengthOf (w : Nat → Int → Int) (x1 : Int) : Prop := (s_X9_of w x1 2) ∧ ((f_X9_of w x1 2) = 0 → (s_X9_of w x1 3) ∧ True) ∧ (¬ (f_X9_of w x1 2) = 0 → (s_X9_of w x1 3) ∧ (z_R (-(f_X9_of w x1 3))) ∧ True) ∧ True
set_option maxRecDepth 100000 in
theorem t_X9_lengthOf {sh : List z_C} {w : Nat → Int → Int} {Q : Option z_V → z_S → Prop} {x1 : Int} (hh0 : z_isMod sh 161) (hs : s_X9_lengthOf w x1) (h : Q (some (z_i (f_X9_lengthOf w x1))) (sh, w)) : z_Sem mX9_lengthOf (sh.length, 0) 0 [(0, z_r 161), (1, z_i x1)] [] (sh, w) Q := by
  unfold f_X9_lengthOf at h
  unfold s_X9_lengthOf at hs
  refine z_aload_n 0 dX9_lengthOf_0 rfl rfl ?_
  refine z_iload_n 1 dX9_lengthOf_1 rfl rfl ?_
  refine z_iconst dX9_lengthOf_2 (by decide) ?_
  obtain ⟨q1, hs⟩ := hs
  refine z_callV (As := [z_i x1, z_i 2]) (rest := []) zmX9_of znX9_of zsX9_of (show vwCl[9]? = some (RX9, TX9, 29) from rfl) zlRX9_76 ⟨Nat.le_of_ble_eq_true rfl, Nat.le_of_ble_eq_true rfl⟩ dX9_lengthOf_3 hh0.1 rfl rfl (z_ai (z_ai z_a0)) (Nat.le_of_ble_eq_true rfl) (Nat.le_of_ble_eq_true rfl) ⟨Nat.le_refl _, Nat.le_refl _⟩ ?_
  refine t_X9_of hh0 q1 ?_
  show z_Sem mX9_lengthOf (sh.length, 0) 6 [(0, z_r 161), (1, z_i x1)] [z_i (f_X9_of w x1 2)] (sh, w) Q
  obtain ⟨m4, m5, hs⟩ := hs
  suffices hJ2 : z_Sem mX9_lengthOf (sh.length, 0) 25 [] [z_i (if (f_X9_of w x1 2) = 0 then f_X9_of w x1 3 else -(f_X9_of w x1 3))] (sh, w) Q by
    refine z_if_ne (tgt := 18) dX9_lengthOf_6 (by decide) (fun c3 => ?_) (fun c3 => ?_)
    · skip
      have ho6 := m5 c3
      refine z_aload_n 0 dX9_lengthOf_18 rfl rfl ?_
      refine z_iload_n 1 dX9_lengthOf_19 rfl rfl ?_
      refine z_iconst dX9_lengthOf_20 (by decide) ?_
      obtain ⟨q7, ho6⟩ := ho6
      refine z_callV (As := [z_i x1, z_i 3]) (rest := []) zmX9_of znX9_of zsX9_of (show vwCl[9]? = some (RX9, TX9, 29) from rfl) zlRX9_76 ⟨Nat.le_of_ble_eq_true rfl, Nat.le_of_ble_eq_true rfl⟩ dX9_lengthOf_21 hh0.1 rfl rfl (z_ai (z_ai z_a0)) (Nat.le_of_ble_eq_true rfl) (Nat.le_of_ble_eq_true rfl) ⟨Nat.le_refl _, Nat.le_refl _⟩ ?_
      refine t_X9_of hh0 q7 ?_
      show z_Sem mX9_lengthOf (sh.length, 0) 24 [(0, z_r 161), (1, z_i x1)] [z_i (f_X9_of w x1 3)] (sh, w) Q
      obtain ⟨q8, ho6⟩ := ho6
      refine z_ineg dX9_lengthOf_24 q8 ?_
      refine z_sub (L' := []) [] rfl ?_
      simp only [if_neg c3] at hJ2
      exact hJ2
    · skip
      have ho9 := m4 c3
      refine z_aload_n 0 dX9_lengthOf_9 rfl rfl ?_
      refine z_iload_n 1 dX9_lengthOf_10 rfl rfl ?_
      refine z_iconst dX9_lengthOf_11 (by decide) ?_
      obtain ⟨q10, ho9⟩ := ho9
      refine z_callV (As := [z_i x1, z_i 3]) (rest := []) zmX9_of znX9_of zsX9_of (show vwCl[9]? = some (RX9, TX9, 29) from rfl) zlRX9_76 ⟨Nat.le_of_ble_eq_true rfl, Nat.le_of_ble_eq_true rfl⟩ dX9_lengthOf_12 hh0.1 rfl rfl (z_ai (z_ai z_a0)) (Nat.le_of_ble_eq_true rfl) (Nat.le_of_ble_eq_true rfl) ⟨Nat.le_refl _, Nat.le_refl _⟩ ?_
      refine t_X9_of hh0 q10 ?_
      show z_Sem mX9_lengthOf (sh.length, 0) 15 [(0, z_r 161), (1, z_i x1)] [z_i (f_X9_of w x1 3)] (sh, w) Q
      refine z_goto (tgt := 25) dX9_lengthOf_15 (by decide) ?_
      refine z_sub (L' := []) [] rfl ?_
      simp only [if_pos c3] at hJ2
      exact hJ2
  exact z_ret (v := some (z_i (if (f_X9_of w x1 2) = 0 then f_X9_of w x1 3 else -(f_X9_of w x1 3)))) dX9_lengthOf_25 ⟨rfl, Or.inl rfl⟩ rfl rfl h
set_option maxRecDepth 100000 in
theorem t_X9_laysStep {sh : List z_C} {w : Nat → Int → Int} {Q : Option z_V → z_S → Prop} {x1 : Int} {x2 : Int} {x3 : Int} {x4 : Int} (hh0 : z_isMod sh 161) (h : ((0 : Int) ≤ (w 161 13) ∧ (w 161 13) < 60) ∧ ∀ w1 : Nat → Int → Int, w1 = z_W w 168 (w 161 13) x1 → ((0 : Int) ≤ (w1 161 13) ∧ (w1 161 13) < 60) ∧ ∀ w3 : Nat → Int → Int, w3 = z_W w1 169 (w1 161 13) x2 → ((0 : Int) ≤ (w3 161 13) ∧ (w3 161 13) < 60) ∧ ∀ w5 : Nat → Int → Int, w5 = z_W w3 170 (w3 161 13) x3 → ((0 : Int) ≤ (w5 161 13) ∧ (w5 161 13) < 60) ∧ ∀ w7 : Nat → Int → Int, w7 = z_W w5 171 (w5 161 13) x4 → (z_R ((w7 161 13) + 1)) ∧ ∀ w10 : Nat → Int → Int, w10 = z_W w7 161 13 ((w7 161 13) + 1) → Q none (sh, w10)) : z_Sem mX9_laysStep (sh.length, 0) 0 [(0, z_r 161), (1, z_i x1), (2, z_i x2), (3, z_i x3), (4, z_i x4)] [] (sh, w) Q := by
  refine z_aload_n 0 dX9_laysStep_0 rfl rfl ?_
  refine z_getR (r := 168) zfRX9_34 dX9_laysStep_1 hh0.1 rfl ?_
  refine z_aload_n 0 dX9_laysStep_4 rfl rfl ?_
  refine z_getI (ki := 13) zfRX9_84 dX9_laysStep_5 hh0.1 rfl rfl ?_
  refine z_iload_n 1 dX9_laysStep_8 rfl rfl ?_
  obtain ⟨q2, h⟩ := h
  refine z_iast dX9_laysStep_9 hh0.2.2.2.2.2.2.2.1 q2 ?_
  refine z_genw (fun w1 hw1 => ?_)
  replace h := h w1 hw1
  refine z_aload_n 0 dX9_laysStep_10 rfl rfl ?_
  refine z_getR (r := 169) zfRX9_37 dX9_laysStep_11 hh0.1 rfl ?_
  refine z_aload_n 0 dX9_laysStep_14 rfl rfl ?_
  refine z_getI (ki := 13) zfRX9_84 dX9_laysStep_15 hh0.1 rfl rfl ?_
  refine z_iload_n 2 dX9_laysStep_18 rfl rfl ?_
  obtain ⟨q4, h⟩ := h
  refine z_iast dX9_laysStep_19 hh0.2.2.2.2.2.2.2.2.1 q4 ?_
  refine z_genw (fun w3 hw3 => ?_)
  replace h := h w3 hw3
  refine z_aload_n 0 dX9_laysStep_20 rfl rfl ?_
  refine z_getR (r := 170) zfRX9_40 dX9_laysStep_21 hh0.1 rfl ?_
  refine z_aload_n 0 dX9_laysStep_24 rfl rfl ?_
  refine z_getI (ki := 13) zfRX9_84 dX9_laysStep_25 hh0.1 rfl rfl ?_
  refine z_iload_n 3 dX9_laysStep_28 rfl rfl ?_
  obtain ⟨q6, h⟩ := h
  refine z_iast dX9_laysStep_29 hh0.2.2.2.2.2.2.2.2.2.1 q6 ?_
  refine z_genw (fun w5 hw5 => ?_)
  replace h := h w5 hw5
  refine z_aload_n 0 dX9_laysStep_30 rfl rfl ?_
  refine z_getR (r := 171) zfRX9_43 dX9_laysStep_31 hh0.1 rfl ?_
  refine z_aload_n 0 dX9_laysStep_34 rfl rfl ?_
  refine z_getI (ki := 13) zfRX9_84 dX9_laysStep_35 hh0.1 rfl rfl ?_
  refine z_iload 4 dX9_laysStep_38 rfl ?_
  obtain ⟨q8, h⟩ := h
  refine z_iast dX9_laysStep_40 hh0.2.2.2.2.2.2.2.2.2.2.1 q8 ?_
  refine z_genw (fun w7 hw7 => ?_)
  replace h := h w7 hw7
  refine z_aload_n 0 dX9_laysStep_41 rfl rfl ?_
  refine z_dup dX9_laysStep_42 rfl ?_
  refine z_getI (ki := 13) zfRX9_84 dX9_laysStep_43 hh0.1 rfl rfl ?_
  refine z_iconst dX9_laysStep_46 (by decide) ?_
  obtain ⟨q9, h⟩ := h
  refine z_iadd dX9_laysStep_47 q9 ?_
  refine z_putI (ki := 13) zfRX9_84 dX9_laysStep_48 hh0.1 rfl rfl ?_
  refine z_genw (fun w10 hw10 => ?_)
  replace h := h w10 hw10
  exact z_ret (v := none) dX9_laysStep_51 ⟨rfl, rfl⟩ rfl rfl h
set_option maxRecDepth 100000 in
theorem t_X9_laysSteps {sh : List z_C} {w : Nat → Int → Int} {Q : Option z_V → z_S → Prop}  (hh0 : z_isMod sh 161) (h : ∀ w1 : Nat → Int → Int, w1 = z_W w 161 13 0 → z_Sem mX9_laysSteps (sh.length, 0) 7 [(0, z_r 161), (1, z_i 0)] [] (sh, w1) Q) : z_Sem mX9_laysSteps (sh.length, 0) 0 [(0, z_r 161)] [] (sh, w) Q := by
  refine z_aload_n 0 dX9_laysSteps_0 rfl rfl ?_
  refine z_iconst dX9_laysSteps_1 (by decide) ?_
  refine z_putI (ki := 13) zfRX9_84 dX9_laysSteps_2 hh0.1 rfl rfl ?_
  refine z_genw (fun w1 hw1 => ?_)
  replace h := h w1 hw1
  refine z_iconst dX9_laysSteps_5 (by decide) ?_
  refine z_istore_n (L' := [(1, z_i 0), (0, z_r 161)]) dX9_laysSteps_6 rfl (by decide) rfl ?_
  refine z_sub (L' := [(0, z_r 161), (1, z_i 0)]) [1, 0] rfl ?_
  exact h
set_option maxRecDepth 100000 in
theorem t_X9_laysSteps_7 {sh : List z_C} {w : Nat → Int → Int} {Q : Option z_V → z_S → Prop} {x1 : Int} (hh0 : z_isMod sh 161) (h : (((w 163 2) ≤ x1 → z_Sem mX9_laysSteps (sh.length, 0) 53 [(0, z_r 161), (1, z_i 1)] [] (sh, w) Q) ∧ (¬ (w 163 2) ≤ x1 → (s_X9_isOn w x1) ∧ (((f_X9_isOn w x1) = 0 → (z_R (x1 + 1)) ∧ z_Sem mX9_laysSteps (sh.length, 0) 7 [(0, z_r 161), (1, z_i (x1 + 1))] [] (sh, w) Q) ∧ (¬ (f_X9_isOn w x1) = 0 → (s_X9_fromOf w x1) ∧ (s_X9_toOf w x1) ∧ (s_X9_lengthOf w x1) ∧ z_CV mX9_laysStep [z_r 161, z_i (f_X9_fromOf w x1), z_i (f_X9_toOf w x1), z_i (f_X9_lengthOf w x1), z_i x1] sh w (fun w8 => (z_R (x1 + 1)) ∧ z_Sem mX9_laysSteps (sh.length, 0) 7 [(0, z_r 161), (1, z_i (x1 + 1))] [] (sh, w8) Q)))))) : z_Sem mX9_laysSteps (sh.length, 0) 7 [(0, z_r 161), (1, z_i x1)] [] (sh, w) Q := by
  refine z_iload_n 1 dX9_laysSteps_7 rfl rfl ?_
  refine z_aload_n 0 dX9_laysSteps_8 rfl rfl ?_
  refine z_getR (r := 163) zfRX9_17 dX9_laysSteps_9 hh0.1 rfl ?_
  refine z_iconst dX9_laysSteps_12 (by decide) ?_
  refine z_iald dX9_laysSteps_13 hh0.2.2.1 (by decide) ?_
  refine z_icmp_ge (tgt := 51) dX9_laysSteps_14 (by decide) (fun c1 => ?_) (fun c1 => ?_)
  · replace h := h.1 c1
    refine z_iconst dX9_laysSteps_51 (by decide) ?_
    refine z_istore_n (L' := [(1, z_i 1), (0, z_r 161)]) dX9_laysSteps_52 rfl (by decide) rfl ?_
    refine z_sub (L' := [(0, z_r 161), (1, z_i 1)]) [1, 0] rfl ?_
    exact h
  · replace h := h.2 c1
    refine z_aload_n 0 dX9_laysSteps_17 rfl rfl ?_
    refine z_iload_n 1 dX9_laysSteps_18 rfl rfl ?_
    obtain ⟨q2, h⟩ := h
    refine z_callV (As := [z_i x1]) (rest := []) zmX9_isOn znX9_isOn zsX9_isOn (show vwCl[9]? = some (RX9, TX9, 29) from rfl) zlRX9_87 ⟨Nat.le_of_ble_eq_true rfl, Nat.le_of_ble_eq_true rfl⟩ dX9_laysSteps_19 hh0.1 rfl rfl (z_ai z_a0) (Nat.le_of_ble_eq_true rfl) (Nat.le_of_ble_eq_true rfl) ⟨Nat.le_refl _, Nat.le_refl _⟩ ?_
    refine t_X9_isOn hh0 q2 ?_
    show z_Sem mX9_laysSteps (sh.length, 0) 22 [(0, z_r 161), (1, z_i x1)] [z_i (f_X9_isOn w x1)] (sh, w) Q
    refine z_if_eq (tgt := 45) dX9_laysSteps_22 (by decide) (fun c3 => ?_) (fun c3 => ?_)
    · replace h := h.1 c3
      obtain ⟨q4, h⟩ := h
      refine z_iinc (L' := [(1, z_i (x1 + 1)), (0, z_r 161)]) 1 dX9_laysSteps_45 rfl (by decide) rfl q4 ?_
      refine z_goto (tgt := 7) dX9_laysSteps_48 (by decide) ?_
      refine z_sub (L' := [(0, z_r 161), (1, z_i (x1 + 1))]) [1, 0] rfl ?_
      exact h
    · replace h := h.2 c3
      refine z_aload_n 0 dX9_laysSteps_25 rfl rfl ?_
      refine z_aload_n 0 dX9_laysSteps_26 rfl rfl ?_
      refine z_iload_n 1 dX9_laysSteps_27 rfl rfl ?_
      obtain ⟨q5, h⟩ := h
      refine z_callV (As := [z_i x1]) (rest := [z_r 161]) zmX9_fromOf znX9_fromOf zsX9_fromOf (show vwCl[9]? = some (RX9, TX9, 29) from rfl) zlRX9_90 ⟨Nat.le_of_ble_eq_true rfl, Nat.le_of_ble_eq_true rfl⟩ dX9_laysSteps_28 hh0.1 rfl rfl (z_ai z_a0) (Nat.le_of_ble_eq_true rfl) (Nat.le_of_ble_eq_true rfl) ⟨Nat.le_refl _, Nat.le_refl _⟩ ?_
      refine t_X9_fromOf hh0 q5 ?_
      show z_Sem mX9_laysSteps (sh.length, 0) 31 [(0, z_r 161), (1, z_i x1)] [z_i (f_X9_fromOf w x1), z_r 161] (sh, w) Q
      refine z_aload_n 0 dX9_laysSteps_31 rfl rfl ?_
      refine z_iload_n 1 dX9_laysSteps_32 rfl rfl ?_
      obtain ⟨q6, h⟩ := h
      refine z_callV (As := [z_i x1]) (rest := [z_i (f_X9_fromOf w x1), z_r 161]) zmX9_toOf znX9_toOf zsX9_toOf (show vwCl[9]? = some (RX9, TX9, 29) from rfl) zlRX9_93 ⟨Nat.le_of_ble_eq_true rfl, Nat.le_of_ble_eq_true rfl⟩ dX9_laysSteps_33 hh0.1 rfl rfl (z_ai z_a0) (Nat.le_of_ble_eq_true rfl) (Nat.le_of_ble_eq_true rfl) ⟨Nat.le_refl _, Nat.le_refl _⟩ ?_
      refine t_X9_toOf hh0 q6 ?_
      show z_Sem mX9_laysSteps (sh.length, 0) 36 [(0, z_r 161), (1, z_i x1)] [z_i (f_X9_toOf w x1), z_i (f_X9_fromOf w x1), z_r 161] (sh, w) Q
      refine z_aload_n 0 dX9_laysSteps_36 rfl rfl ?_
      refine z_iload_n 1 dX9_laysSteps_37 rfl rfl ?_
      obtain ⟨q7, h⟩ := h
      refine z_callV (As := [z_i x1]) (rest := [z_i (f_X9_toOf w x1), z_i (f_X9_fromOf w x1), z_r 161]) zmX9_lengthOf znX9_lengthOf zsX9_lengthOf (show vwCl[9]? = some (RX9, TX9, 29) from rfl) zlRX9_96 ⟨Nat.le_of_ble_eq_true rfl, Nat.le_of_ble_eq_true rfl⟩ dX9_laysSteps_38 hh0.1 rfl rfl (z_ai z_a0) (Nat.le_of_ble_eq_true rfl) (Nat.le_of_ble_eq_true rfl) ⟨Nat.le_refl _, Nat.le_refl _⟩ ?_
      refine t_X9_lengthOf hh0 q7 ?_
      show z_Sem mX9_laysSteps (sh.length, 0) 41 [(0, z_r 161), (1, z_i x1)] [z_i (f_X9_lengthOf w x1), z_i (f_X9_toOf w x1), z_i (f_X9_fromOf w x1), z_r 161] (sh, w) Q
      refine z_iload_n 1 dX9_laysSteps_41 rfl rfl ?_
      refine z_callV (As := [z_i (f_X9_fromOf w x1), z_i (f_X9_toOf w x1), z_i (f_X9_lengthOf w x1), z_i x1]) (rest := []) zmX9_laysStep znX9_laysStep zsX9_laysStep (show vwCl[9]? = some (RX9, TX9, 29) from rfl) zlRX9_99 ⟨Nat.le_of_ble_eq_true rfl, Nat.le_of_ble_eq_true rfl⟩ dX9_laysSteps_42 hh0.1 rfl rfl (z_ai (z_ai (z_ai (z_ai z_a0)))) (Nat.le_of_ble_eq_true rfl) (Nat.le_of_ble_eq_true rfl) ⟨Nat.le_refl _, Nat.le_refl _⟩ (z_CVm h ?_)
      intro w8 h
      show z_Sem mX9_laysSteps (sh.length, 0) 45 [(0, z_r 161), (1, z_i x1)] [] (sh, w8) Q
      obtain ⟨q9, h⟩ := h
      refine z_iinc (L' := [(1, z_i (x1 + 1)), (0, z_r 161)]) 1 dX9_laysSteps_45 rfl (by decide) rfl q9 ?_
      refine z_goto (tgt := 7) dX9_laysSteps_48 (by decide) ?_
      refine z_sub (L' := [(0, z_r 161), (1, z_i (x1 + 1))]) [1, 0] rfl ?_
      exact h
set_option maxRecDepth 100000 in
theorem t_X9_laysSteps_53 {sh : List z_C} {w : Nat → Int → Int} {Q : Option z_V → z_S → Prop} {x1 : Int} (hh0 : z_isMod sh 161) (h : (((w 163 1) ≤ x1 → z_Sem mX9_laysSteps (sh.length, 0) 99 [(0, z_r 161), (1, z_i 1)] [] (sh, w) Q) ∧ (¬ (w 163 1) ≤ x1 → (z_R (100 + x1)) ∧ z_CV mX9_laysStep [z_r 161, z_i 0, z_i x1, z_i (w 163 0), z_i (100 + x1)] sh w (fun w3 => (z_R (200 + x1)) ∧ z_CV mX9_laysStep [z_r 161, z_i x1, z_i 0, z_i 0, z_i (200 + x1)] sh w3 (fun w5 => (z_R (x1 + 1)) ∧ z_Sem mX9_laysSteps (sh.length, 0) 53 [(0, z_r 161), (1, z_i (x1 + 1))] [] (sh, w5) Q))))) : z_Sem mX9_laysSteps (sh.length, 0) 53 [(0, z_r 161), (1, z_i x1)] [] (sh, w) Q := by
  refine z_iload_n 1 dX9_laysSteps_53 rfl rfl ?_
  refine z_aload_n 0 dX9_laysSteps_54 rfl rfl ?_
  refine z_getR (r := 163) zfRX9_17 dX9_laysSteps_55 hh0.1 rfl ?_
  refine z_iconst dX9_laysSteps_58 (by decide) ?_
  refine z_iald dX9_laysSteps_59 hh0.2.2.1 (by decide) ?_
  refine z_icmp_ge (tgt := 97) dX9_laysSteps_60 (by decide) (fun c1 => ?_) (fun c1 => ?_)
  · replace h := h.1 c1
    refine z_iconst dX9_laysSteps_97 (by decide) ?_
    refine z_istore_n (L' := [(1, z_i 1), (0, z_r 161)]) dX9_laysSteps_98 rfl (by decide) rfl ?_
    refine z_sub (L' := [(0, z_r 161), (1, z_i 1)]) [1, 0] rfl ?_
    exact h
  · replace h := h.2 c1
    refine z_aload_n 0 dX9_laysSteps_63 rfl rfl ?_
    refine z_iconst dX9_laysSteps_64 (by decide) ?_
    refine z_iload_n 1 dX9_laysSteps_65 rfl rfl ?_
    refine z_aload_n 0 dX9_laysSteps_66 rfl rfl ?_
    refine z_getR (r := 163) zfRX9_17 dX9_laysSteps_67 hh0.1 rfl ?_
    refine z_iconst dX9_laysSteps_70 (by decide) ?_
    refine z_iald dX9_laysSteps_71 hh0.2.2.1 (by decide) ?_
    refine z_bipush dX9_laysSteps_72 (by decide) (by decide) ?_
    refine z_iload_n 1 dX9_laysSteps_74 rfl rfl ?_
    obtain ⟨q2, h⟩ := h
    refine z_iadd dX9_laysSteps_75 q2 ?_
    refine z_callV (As := [z_i 0, z_i x1, z_i (w 163 0), z_i (100 + x1)]) (rest := []) zmX9_laysStep znX9_laysStep zsX9_laysStep (show vwCl[9]? = some (RX9, TX9, 29) from rfl) zlRX9_99 ⟨Nat.le_of_ble_eq_true rfl, Nat.le_of_ble_eq_true rfl⟩ dX9_laysSteps_76 hh0.1 rfl rfl (z_ai (z_ai (z_ai (z_ai z_a0)))) (Nat.le_of_ble_eq_true rfl) (Nat.le_of_ble_eq_true rfl) ⟨Nat.le_refl _, Nat.le_refl _⟩ (z_CVm h ?_)
    intro w3 h
    show z_Sem mX9_laysSteps (sh.length, 0) 79 [(0, z_r 161), (1, z_i x1)] [] (sh, w3) Q
    refine z_aload_n 0 dX9_laysSteps_79 rfl rfl ?_
    refine z_iload_n 1 dX9_laysSteps_80 rfl rfl ?_
    refine z_iconst dX9_laysSteps_81 (by decide) ?_
    refine z_iconst dX9_laysSteps_82 (by decide) ?_
    refine z_sipush dX9_laysSteps_83 (by decide) (by decide) ?_
    refine z_iload_n 1 dX9_laysSteps_86 rfl rfl ?_
    obtain ⟨q4, h⟩ := h
    refine z_iadd dX9_laysSteps_87 q4 ?_
    refine z_callV (As := [z_i x1, z_i 0, z_i 0, z_i (200 + x1)]) (rest := []) zmX9_laysStep znX9_laysStep zsX9_laysStep (show vwCl[9]? = some (RX9, TX9, 29) from rfl) zlRX9_99 ⟨Nat.le_of_ble_eq_true rfl, Nat.le_of_ble_eq_true rfl⟩ dX9_laysSteps_88 hh0.1 rfl rfl (z_ai (z_ai (z_ai (z_ai z_a0)))) (Nat.le_of_ble_eq_true rfl) (Nat.le_of_ble_eq_true rfl) ⟨Nat.le_refl _, Nat.le_refl _⟩ (z_CVm h ?_)
    intro w5 h
    show z_Sem mX9_laysSteps (sh.length, 0) 91 [(0, z_r 161), (1, z_i x1)] [] (sh, w5) Q
    obtain ⟨q6, h⟩ := h
    refine z_iinc (L' := [(1, z_i (x1 + 1)), (0, z_r 161)]) 1 dX9_laysSteps_91 rfl (by decide) rfl q6 ?_
    refine z_goto (tgt := 53) dX9_laysSteps_94 (by decide) ?_
    refine z_sub (L' := [(0, z_r 161), (1, z_i (x1 + 1))]) [1, 0] rfl ?_
    exact h
set_option maxRecDepth 100000 in
theorem t_X9_laysSteps_99 {sh : List z_C} {w : Nat → Int → Int} {Q : Option z_V → z_S → Prop} {x1 : Int} (hh0 : z_isMod sh 161) (h : (((w 163 1) ≤ x1 → Q none (sh, w)) ∧ (¬ (w 163 1) ≤ x1 → (s_X9_isPinned w x1) ∧ (((f_X9_isPinned w x1) = 0 → (z_R (x1 + 1)) ∧ z_Sem mX9_laysSteps (sh.length, 0) 99 [(0, z_r 161), (1, z_i (x1 + 1))] [] (sh, w) Q) ∧ (¬ (f_X9_isPinned w x1) = 0 → (z_R (133 + x1)) ∧ ((0 : Int) ≤ (133 + x1) ∧ (133 + x1) < 264) ∧ (z_R ((w 163 (133 + x1)) - 1)) ∧ (z_R (300 + x1)) ∧ z_CV mX9_laysStep [z_r 161, z_i 0, z_i x1, z_i ((w 163 (133 + x1)) - 1), z_i (300 + x1)] sh w (fun w9 => (z_R (133 + x1)) ∧ ((0 : Int) ≤ (133 + x1) ∧ (133 + x1) < 264) ∧ (z_R (1 - (w9 163 (133 + x1)))) ∧ (z_R (400 + x1)) ∧ z_CV mX9_laysStep [z_r 161, z_i x1, z_i 0, z_i (1 - (w9 163 (133 + x1))), z_i (400 + x1)] sh w9 (fun w14 => (z_R (x1 + 1)) ∧ z_Sem mX9_laysSteps (sh.length, 0) 99 [(0, z_r 161), (1, z_i (x1 + 1))] [] (sh, w14) Q))))))) : z_Sem mX9_laysSteps (sh.length, 0) 99 [(0, z_r 161), (1, z_i x1)] [] (sh, w) Q := by
  refine z_iload_n 1 dX9_laysSteps_99 rfl rfl ?_
  refine z_aload_n 0 dX9_laysSteps_100 rfl rfl ?_
  refine z_getR (r := 163) zfRX9_17 dX9_laysSteps_101 hh0.1 rfl ?_
  refine z_iconst dX9_laysSteps_104 (by decide) ?_
  refine z_iald dX9_laysSteps_105 hh0.2.2.1 (by decide) ?_
  refine z_icmp_ge (tgt := 169) dX9_laysSteps_106 (by decide) (fun c1 => ?_) (fun c1 => ?_)
  · replace h := h.1 c1
    exact z_ret (v := none) dX9_laysSteps_169 ⟨rfl, rfl⟩ rfl rfl h
  · replace h := h.2 c1
    refine z_aload_n 0 dX9_laysSteps_109 rfl rfl ?_
    refine z_iload_n 1 dX9_laysSteps_110 rfl rfl ?_
    obtain ⟨q2, h⟩ := h
    refine z_callV (As := [z_i x1]) (rest := []) zmX9_isPinned znX9_isPinned zsX9_isPinned (show vwCl[9]? = some (RX9, TX9, 29) from rfl) zlRX9_103 ⟨Nat.le_of_ble_eq_true rfl, Nat.le_of_ble_eq_true rfl⟩ dX9_laysSteps_111 hh0.1 rfl rfl (z_ai z_a0) (Nat.le_of_ble_eq_true rfl) (Nat.le_of_ble_eq_true rfl) ⟨Nat.le_refl _, Nat.le_refl _⟩ ?_
    refine t_X9_isPinned hh0 q2 ?_
    show z_Sem mX9_laysSteps (sh.length, 0) 114 [(0, z_r 161), (1, z_i x1)] [z_i (f_X9_isPinned w x1)] (sh, w) Q
    refine z_if_eq (tgt := 163) dX9_laysSteps_114 (by decide) (fun c3 => ?_) (fun c3 => ?_)
    · replace h := h.1 c3
      obtain ⟨q4, h⟩ := h
      refine z_iinc (L' := [(1, z_i (x1 + 1)), (0, z_r 161)]) 1 dX9_laysSteps_163 rfl (by decide) rfl q4 ?_
      refine z_goto (tgt := 99) dX9_laysSteps_166 (by decide) ?_
      refine z_sub (L' := [(0, z_r 161), (1, z_i (x1 + 1))]) [1, 0] rfl ?_
      exact h
    · replace h := h.2 c3
      refine z_aload_n 0 dX9_laysSteps_117 rfl rfl ?_
      refine z_iconst dX9_laysSteps_118 (by decide) ?_
      refine z_iload_n 1 dX9_laysSteps_119 rfl rfl ?_
      refine z_aload_n 0 dX9_laysSteps_120 rfl rfl ?_
      refine z_getR (r := 163) zfRX9_17 dX9_laysSteps_121 hh0.1 rfl ?_
      refine z_sipush dX9_laysSteps_124 (by decide) (by decide) ?_
      refine z_iload_n 1 dX9_laysSteps_127 rfl rfl ?_
      obtain ⟨q5, h⟩ := h
      refine z_iadd dX9_laysSteps_128 q5 ?_
      obtain ⟨q6, h⟩ := h
      refine z_iald dX9_laysSteps_129 hh0.2.2.1 q6 ?_
      refine z_iconst dX9_laysSteps_130 (by decide) ?_
      obtain ⟨q7, h⟩ := h
      refine z_isub dX9_laysSteps_131 q7 ?_
      refine z_sipush dX9_laysSteps_132 (by decide) (by decide) ?_
      refine z_iload_n 1 dX9_laysSteps_135 rfl rfl ?_
      obtain ⟨q8, h⟩ := h
      refine z_iadd dX9_laysSteps_136 q8 ?_
      refine z_callV (As := [z_i 0, z_i x1, z_i ((w 163 (133 + x1)) - 1), z_i (300 + x1)]) (rest := []) zmX9_laysStep znX9_laysStep zsX9_laysStep (show vwCl[9]? = some (RX9, TX9, 29) from rfl) zlRX9_99 ⟨Nat.le_of_ble_eq_true rfl, Nat.le_of_ble_eq_true rfl⟩ dX9_laysSteps_137 hh0.1 rfl rfl (z_ai (z_ai (z_ai (z_ai z_a0)))) (Nat.le_of_ble_eq_true rfl) (Nat.le_of_ble_eq_true rfl) ⟨Nat.le_refl _, Nat.le_refl _⟩ (z_CVm h ?_)
      intro w9 h
      show z_Sem mX9_laysSteps (sh.length, 0) 140 [(0, z_r 161), (1, z_i x1)] [] (sh, w9) Q
      refine z_aload_n 0 dX9_laysSteps_140 rfl rfl ?_
      refine z_iload_n 1 dX9_laysSteps_141 rfl rfl ?_
      refine z_iconst dX9_laysSteps_142 (by decide) ?_
      refine z_iconst dX9_laysSteps_143 (by decide) ?_
      refine z_aload_n 0 dX9_laysSteps_144 rfl rfl ?_
      refine z_getR (r := 163) zfRX9_17 dX9_laysSteps_145 hh0.1 rfl ?_
      refine z_sipush dX9_laysSteps_148 (by decide) (by decide) ?_
      refine z_iload_n 1 dX9_laysSteps_151 rfl rfl ?_
      obtain ⟨q10, h⟩ := h
      refine z_iadd dX9_laysSteps_152 q10 ?_
      obtain ⟨q11, h⟩ := h
      refine z_iald dX9_laysSteps_153 hh0.2.2.1 q11 ?_
      obtain ⟨q12, h⟩ := h
      refine z_isub dX9_laysSteps_154 q12 ?_
      refine z_sipush dX9_laysSteps_155 (by decide) (by decide) ?_
      refine z_iload_n 1 dX9_laysSteps_158 rfl rfl ?_
      obtain ⟨q13, h⟩ := h
      refine z_iadd dX9_laysSteps_159 q13 ?_
      refine z_callV (As := [z_i x1, z_i 0, z_i (1 - (w9 163 (133 + x1))), z_i (400 + x1)]) (rest := []) zmX9_laysStep znX9_laysStep zsX9_laysStep (show vwCl[9]? = some (RX9, TX9, 29) from rfl) zlRX9_99 ⟨Nat.le_of_ble_eq_true rfl, Nat.le_of_ble_eq_true rfl⟩ dX9_laysSteps_160 hh0.1 rfl rfl (z_ai (z_ai (z_ai (z_ai z_a0)))) (Nat.le_of_ble_eq_true rfl) (Nat.le_of_ble_eq_true rfl) ⟨Nat.le_refl _, Nat.le_refl _⟩ (z_CVm h ?_)
      intro w14 h
      show z_Sem mX9_laysSteps (sh.length, 0) 163 [(0, z_r 161), (1, z_i x1)] [] (sh, w14) Q
      obtain ⟨q15, h⟩ := h
      refine z_iinc (L' := [(1, z_i (x1 + 1)), (0, z_r 161)]) 1 dX9_laysSteps_163 rfl (by decide) rfl q15 ?_
      refine z_goto (tgt := 99) dX9_laysSteps_166 (by decide) ?_
      refine z_sub (L' := [(0, z_r 161), (1, z_i (x1 + 1))]) [1, 0] rfl ?_
      exact h
def f_X9_pair (w : Nat → Int → Int) (x0 : Int) (x1 : Int) : Int := (10 * x0) + x1
def s_X9_pair (w : Nat → Int → Int) (x0 : Int) (x1 : Int) : Prop := (z_R (10 * x0)) ∧ (z_R ((10 * x0) + x1)) ∧ True
set_option maxRecDepth 100000 in
theorem t_X9_pair {sh : List z_C} {w : Nat → Int → Int} {Q : Option z_V → z_S → Prop} {x0 : Int} {x1 : Int}  (hs : s_X9_pair w x0 x1) (h : Q (some (z_i (f_X9_pair w x0 x1))) (sh, w)) : z_Sem mX9_pair (sh.length, 0) 0 [(0, z_i x0), (1, z_i x1)] [] (sh, w) Q := by
  unfold f_X9_pair at h
  unfold s_X9_pair at hs
  refine z_bipush dX9_pair_0 (by decide) (by decide) ?_
  refine z_iload_n 0 dX9_pair_2 rfl rfl ?_
  obtain ⟨q1, hs⟩ := hs
  refine z_imul dX9_pair_3 q1 ?_
  refine z_iload_n 1 dX9_pair_4 rfl rfl ?_
  obtain ⟨q2, hs⟩ := hs
  refine z_iadd dX9_pair_5 q2 ?_
  exact z_ret (v := some (z_i ((10 * x0) + x1))) dX9_pair_6 ⟨rfl, Or.inl rfl⟩ rfl rfl h
def f_X9_boundOf (w : Nat → Int → Int) (x1 : Int) (x2 : Int) : Int := w 172 (f_X9_pair w x1 x2)
def s_X9_boundOf (w : Nat → Int → Int) (x1 : Int) (x2 : Int) : Prop := (s_X9_pair w x1 x2) ∧ ((0 : Int) ≤ (f_X9_pair w x1 x2) ∧ (f_X9_pair w x1 x2) < 100) ∧ True
set_option maxRecDepth 100000 in
theorem t_X9_boundOf {sh : List z_C} {w : Nat → Int → Int} {Q : Option z_V → z_S → Prop} {x1 : Int} {x2 : Int} (hh0 : z_isMod sh 161) (hs : s_X9_boundOf w x1 x2) (h : Q (some (z_i (f_X9_boundOf w x1 x2))) (sh, w)) : z_Sem mX9_boundOf (sh.length, 0) 0 [(0, z_r 161), (1, z_i x1), (2, z_i x2)] [] (sh, w) Q := by
  unfold f_X9_boundOf at h
  unfold s_X9_boundOf at hs
  refine z_aload_n 0 dX9_boundOf_0 rfl rfl ?_
  refine z_getR (r := 172) zfRX9_46 dX9_boundOf_1 hh0.1 rfl ?_
  refine z_iload_n 1 dX9_boundOf_4 rfl rfl ?_
  refine z_iload_n 2 dX9_boundOf_5 rfl rfl ?_
  obtain ⟨q1, hs⟩ := hs
  refine z_callS (As := [z_i x1, z_i x2]) (rest := [z_r 172]) zmX9_pair ztX9_pair zlRX9_106 ⟨Nat.le_of_ble_eq_true rfl, Nat.le_of_ble_eq_true rfl⟩ dX9_boundOf_6 rfl rfl (z_ai (z_ai z_a0)) (Nat.le_of_ble_eq_true rfl) (Nat.le_of_ble_eq_true rfl) ⟨Nat.le_refl _, Nat.le_refl _⟩ ?_
  refine t_X9_pair  q1 ?_
  show z_Sem mX9_boundOf (sh.length, 0) 9 [(0, z_r 161), (1, z_i x1), (2, z_i x2)] [z_i (f_X9_pair w x1 x2), z_r 172] (sh, w) Q
  obtain ⟨q2, hs⟩ := hs
  refine z_iald dX9_boundOf_9 hh0.2.2.2.2.2.2.2.2.2.2.2.1 q2 ?_
  exact z_ret (v := some (z_i (w 172 (f_X9_pair w x1 x2)))) dX9_boundOf_10 ⟨rfl, Or.inl rfl⟩ rfl rfl h
set_option maxRecDepth 100000 in
theorem t_X9_lays {sh : List z_C} {w : Nat → Int → Int} {Q : Option z_V → z_S → Prop}  (hh0 : z_isMod sh 161) (h : z_CV mX9_laysSteps [z_r 161] sh w (fun w1 => ∀ y2 : Int, y2 = (w1 163 1) → z_Sem mX9_lays (sh.length, 0) 13 [(0, z_r 161), (1, z_i y2), (2, z_i 0)] [] (sh, w1) Q)) : z_Sem mX9_lays (sh.length, 0) 0 [(0, z_r 161)] [] (sh, w) Q := by
  refine z_aload_n 0 dX9_lays_0 rfl rfl ?_
  refine z_callV (As := []) (rest := []) zmX9_laysSteps znX9_laysSteps zsX9_laysSteps (show vwCl[9]? = some (RX9, TX9, 29) from rfl) zlRX9_109 ⟨Nat.le_of_ble_eq_true rfl, Nat.le_of_ble_eq_true rfl⟩ dX9_lays_1 hh0.1 rfl rfl z_a0 (Nat.le_of_ble_eq_true rfl) (Nat.le_of_ble_eq_true rfl) ⟨Nat.le_refl _, Nat.le_refl _⟩ (z_CVm h ?_)
  intro w1 h
  show z_Sem mX9_lays (sh.length, 0) 4 [(0, z_r 161)] [] (sh, w1) Q
  refine z_aload_n 0 dX9_lays_4 rfl rfl ?_
  refine z_getR (r := 163) zfRX9_17 dX9_lays_5 hh0.1 rfl ?_
  refine z_iconst dX9_lays_8 (by decide) ?_
  refine z_iald dX9_lays_9 hh0.2.2.1 (by decide) ?_
  refine z_nam (fun y2 hy2 => ?_)
  replace h := h y2 hy2
  refine z_istore_n (L' := [(1, z_i y2), (0, z_r 161)]) dX9_lays_10 rfl (by decide) rfl ?_
  refine z_iconst dX9_lays_11 (by decide) ?_
  refine z_istore_n (L' := [(2, z_i 0), (1, z_i y2), (0, z_r 161)]) dX9_lays_12 rfl (by decide) rfl ?_
  refine z_sub (L' := [(0, z_r 161), (1, z_i y2), (2, z_i 0)]) [2, 1, 0] rfl ?_
  exact h
set_option maxRecDepth 100000 in
theorem t_X9_lays_13 {sh : List z_C} {w : Nat → Int → Int} {Q : Option z_V → z_S → Prop} {x1 : Int} {x2 : Int} (hh0 : z_isMod sh 161) (h : ((x1 ≤ x2 → z_Sem mX9_lays (sh.length, 0) 60 [(0, z_r 161), (1, z_i x1), (2, z_i 0)] [] (sh, w) Q) ∧ (¬ x1 ≤ x2 → z_Sem mX9_lays (sh.length, 0) 20 [(0, z_r 161), (1, z_i x1), (2, z_i x2), (3, z_i 0)] [] (sh, w) Q))) : z_Sem mX9_lays (sh.length, 0) 13 [(0, z_r 161), (1, z_i x1), (2, z_i x2)] [] (sh, w) Q := by
  refine z_iload_n 2 dX9_lays_13 rfl rfl ?_
  refine z_iload_n 1 dX9_lays_14 rfl rfl ?_
  refine z_icmp_ge (tgt := 58) dX9_lays_15 (by decide) (fun c1 => ?_) (fun c1 => ?_)
  · replace h := h.1 c1
    refine z_iconst dX9_lays_58 (by decide) ?_
    refine z_istore_n (L' := [(2, z_i 0), (0, z_r 161), (1, z_i x1)]) dX9_lays_59 rfl (by decide) rfl ?_
    refine z_sub (L' := [(0, z_r 161), (1, z_i x1), (2, z_i 0)]) [1, 2, 0] rfl ?_
    exact h
  · replace h := h.2 c1
    refine z_iconst dX9_lays_18 (by decide) ?_
    refine z_istore_n (L' := [(3, z_i 0), (0, z_r 161), (1, z_i x1), (2, z_i x2)]) dX9_lays_19 rfl (by decide) rfl ?_
    refine z_sub (L' := [(0, z_r 161), (1, z_i x1), (2, z_i x2), (3, z_i 0)]) [1, 2, 3, 0] rfl ?_
    exact h
set_option maxRecDepth 100000 in
theorem t_X9_lays_60 {sh : List z_C} {w : Nat → Int → Int} {Q : Option z_V → z_S → Prop} {x1 : Int} {x2 : Int} (hh0 : z_isMod sh 161) (h : (((w 161 13) ≤ x2 → z_Sem mX9_lays (sh.length, 0) 128 [(0, z_r 161), (1, z_i x1), (2, z_i 0)] [] (sh, w) Q) ∧ (¬ (w 161 13) ≤ x2 → ((0 : Int) ≤ x2 ∧ x2 < 60) ∧ ((0 : Int) ≤ x2 ∧ x2 < 60) ∧ (s_X9_pair w (w 168 x2) (w 169 x2)) ∧ ∀ y5 : Int, y5 = (f_X9_pair w (w 168 x2) (w 169 x2)) → ((0 : Int) ≤ x2 ∧ x2 < 60) ∧ ((0 : Int) ≤ y5 ∧ y5 < 100) ∧ ((w 172 y5) ≤ (w 170 x2) → ((0 : Int) ≤ y5 ∧ y5 < 100) ∧ True) ∧ (¬ (w 172 y5) ≤ (w 170 x2) → ((0 : Int) ≤ x2 ∧ x2 < 60) ∧ True) ∧ ((0 : Int) ≤ y5 ∧ y5 < 100) ∧ ∀ w16 : Nat → Int → Int, w16 = z_W w 172 y5 (if (w 172 y5) ≤ (w 170 x2) then w 172 y5 else w 170 x2) → (z_R (x2 + 1)) ∧ z_Sem mX9_lays (sh.length, 0) 60 [(0, z_r 161), (1, z_i x1), (2, z_i (x2 + 1))] [] (sh, w16) Q))) : z_Sem mX9_lays (sh.length, 0) 60 [(0, z_r 161), (1, z_i x1), (2, z_i x2)] [] (sh, w) Q := by
  refine z_iload_n 2 dX9_lays_60 rfl rfl ?_
  refine z_aload_n 0 dX9_lays_61 rfl rfl ?_
  refine z_getI (ki := 13) zfRX9_84 dX9_lays_62 hh0.1 rfl rfl ?_
  refine z_icmp_ge (tgt := 126) dX9_lays_65 (by decide) (fun c1 => ?_) (fun c1 => ?_)
  · replace h := h.1 c1
    refine z_iconst dX9_lays_126 (by decide) ?_
    refine z_istore_n (L' := [(2, z_i 0), (0, z_r 161), (1, z_i x1)]) dX9_lays_127 rfl (by decide) rfl ?_
    refine z_sub (L' := [(0, z_r 161), (1, z_i x1), (2, z_i 0)]) [1, 2, 0] rfl ?_
    exact h
  · replace h := h.2 c1
    refine z_aload_n 0 dX9_lays_68 rfl rfl ?_
    refine z_getR (r := 168) zfRX9_34 dX9_lays_69 hh0.1 rfl ?_
    refine z_iload_n 2 dX9_lays_72 rfl rfl ?_
    obtain ⟨q2, h⟩ := h
    refine z_iald dX9_lays_73 hh0.2.2.2.2.2.2.2.1 q2 ?_
    refine z_aload_n 0 dX9_lays_74 rfl rfl ?_
    refine z_getR (r := 169) zfRX9_37 dX9_lays_75 hh0.1 rfl ?_
    refine z_iload_n 2 dX9_lays_78 rfl rfl ?_
    obtain ⟨q3, h⟩ := h
    refine z_iald dX9_lays_79 hh0.2.2.2.2.2.2.2.2.1 q3 ?_
    obtain ⟨q4, h⟩ := h
    refine z_callS (As := [z_i (w 168 x2), z_i (w 169 x2)]) (rest := []) zmX9_pair ztX9_pair zlRX9_106 ⟨Nat.le_of_ble_eq_true rfl, Nat.le_of_ble_eq_true rfl⟩ dX9_lays_80 rfl rfl (z_ai (z_ai z_a0)) (Nat.le_of_ble_eq_true rfl) (Nat.le_of_ble_eq_true rfl) ⟨Nat.le_refl _, Nat.le_refl _⟩ ?_
    refine t_X9_pair  q4 ?_
    show z_Sem mX9_lays (sh.length, 0) 83 [(0, z_r 161), (1, z_i x1), (2, z_i x2)] [z_i (f_X9_pair w (w 168 x2) (w 169 x2))] (sh, w) Q
    refine z_nam (fun y5 hy5 => ?_)
    replace h := h y5 hy5
    refine z_istore_n (L' := [(3, z_i y5), (0, z_r 161), (1, z_i x1), (2, z_i x2)]) dX9_lays_83 rfl (by decide) rfl ?_
    refine z_aload_n 1 dX9_lays_84 rfl rfl ?_
    refine z_getR (r := 172) zfRX9_46 dX9_lays_85 hh0.1 rfl ?_
    refine z_iload_n 0 dX9_lays_88 rfl rfl ?_
    refine z_aload_n 1 dX9_lays_89 rfl rfl ?_
    refine z_getR (r := 170) zfRX9_40 dX9_lays_90 hh0.1 rfl ?_
    refine z_iload_n 3 dX9_lays_93 rfl rfl ?_
    obtain ⟨q6, h⟩ := h
    refine z_iald dX9_lays_94 hh0.2.2.2.2.2.2.2.2.2.1 q6 ?_
    refine z_aload_n 1 dX9_lays_95 rfl rfl ?_
    refine z_getR (r := 172) zfRX9_46 dX9_lays_96 hh0.1 rfl ?_
    refine z_iload_n 0 dX9_lays_99 rfl rfl ?_
    obtain ⟨q7, h⟩ := h
    refine z_iald dX9_lays_100 hh0.2.2.2.2.2.2.2.2.2.2.2.1 q7 ?_
    obtain ⟨m10, m11, h⟩ := h
    suffices hJ8 : z_Sem mX9_lays (sh.length, 0) 119 [(0, z_r 161), (1, z_i x1), (2, z_i x2)] [z_i (if (w 172 y5) ≤ (w 170 x2) then w 172 y5 else w 170 x2), z_i y5, z_r 172] (sh, w) Q by
      refine z_icmp_ge (tgt := 113) dX9_lays_101 (by decide) (fun c9 => ?_) (fun c9 => ?_)
      · skip
        have ho12 := m10 c9
        refine z_aload_n 1 dX9_lays_113 rfl rfl ?_
        refine z_getR (r := 172) zfRX9_46 dX9_lays_114 hh0.1 rfl ?_
        refine z_iload_n 0 dX9_lays_117 rfl rfl ?_
        obtain ⟨q13, ho12⟩ := ho12
        refine z_iald dX9_lays_118 hh0.2.2.2.2.2.2.2.2.2.2.2.1 q13 ?_
        refine z_sub (L' := [(0, z_r 161), (1, z_i x1), (2, z_i x2)]) [1, 2, 3] rfl ?_
        simp only [if_pos c9] at hJ8
        exact hJ8
      · skip
        have ho14 := m11 c9
        refine z_aload_n 1 dX9_lays_104 rfl rfl ?_
        refine z_getR (r := 170) zfRX9_40 dX9_lays_105 hh0.1 rfl ?_
        refine z_iload_n 3 dX9_lays_108 rfl rfl ?_
        obtain ⟨q15, ho14⟩ := ho14
        refine z_iald dX9_lays_109 hh0.2.2.2.2.2.2.2.2.2.1 q15 ?_
        refine z_goto (tgt := 119) dX9_lays_110 (by decide) ?_
        refine z_sub (L' := [(0, z_r 161), (1, z_i x1), (2, z_i x2)]) [1, 2, 3] rfl ?_
        simp only [if_neg c9] at hJ8
        exact hJ8
    obtain ⟨q17, h⟩ := h
    refine z_iast dX9_lays_119 hh0.2.2.2.2.2.2.2.2.2.2.2.1 q17 ?_
    refine z_genw (fun w16 hw16 => ?_)
    replace h := h w16 hw16
    obtain ⟨q18, h⟩ := h
    refine z_iinc (L' := [(2, z_i (x2 + 1)), (0, z_r 161), (1, z_i x1)]) 2 dX9_lays_120 rfl (by decide) rfl q18 ?_
    refine z_goto (tgt := 60) dX9_lays_123 (by decide) ?_
    refine z_sub (L' := [(0, z_r 161), (1, z_i x1), (2, z_i (x2 + 1))]) [1, 2, 0] rfl ?_
    exact h
set_option maxRecDepth 100000 in
theorem t_X9_lays_20 {sh : List z_C} {w : Nat → Int → Int} {Q : Option z_V → z_S → Prop} {x1 : Int} {x2 : Int} {x3 : Int} (hh0 : z_isMod sh 161) (h : ((x1 ≤ x3 → (z_R (x2 + 1)) ∧ z_Sem mX9_lays (sh.length, 0) 13 [(0, z_r 161), (1, z_i x1), (2, z_i (x2 + 1))] [] (sh, w) Q) ∧ (¬ x1 ≤ x3 → (s_X9_pair w x2 x3) ∧ ((0 : Int) ≤ (f_X9_pair w x2 x3) ∧ (f_X9_pair w x2 x3) < 100) ∧ ∀ w8 : Nat → Int → Int, w8 = z_W w 172 (f_X9_pair w x2 x3) (if x2 = x3 then 0 else 1000000) → (z_R (x3 + 1)) ∧ z_Sem mX9_lays (sh.length, 0) 20 [(0, z_r 161), (1, z_i x1), (2, z_i x2), (3, z_i (x3 + 1))] [] (sh, w8) Q))) : z_Sem mX9_lays (sh.length, 0) 20 [(0, z_r 161), (1, z_i x1), (2, z_i x2), (3, z_i x3)] [] (sh, w) Q := by
  refine z_iload_n 3 dX9_lays_20 rfl rfl ?_
  refine z_iload_n 1 dX9_lays_21 rfl rfl ?_
  refine z_icmp_ge (tgt := 52) dX9_lays_22 (by decide) (fun c1 => ?_) (fun c1 => ?_)
  · replace h := h.1 c1
    obtain ⟨q2, h⟩ := h
    refine z_iinc (L' := [(2, z_i (x2 + 1)), (0, z_r 161), (1, z_i x1), (3, z_i x3)]) 2 dX9_lays_52 rfl (by decide) rfl q2 ?_
    refine z_goto (tgt := 13) dX9_lays_55 (by decide) ?_
    refine z_sub (L' := [(0, z_r 161), (1, z_i x1), (2, z_i (x2 + 1))]) [1, 2, 0] rfl ?_
    exact h
  · replace h := h.2 c1
    refine z_aload_n 0 dX9_lays_25 rfl rfl ?_
    refine z_getR (r := 172) zfRX9_46 dX9_lays_26 hh0.1 rfl ?_
    refine z_iload_n 2 dX9_lays_29 rfl rfl ?_
    refine z_iload_n 3 dX9_lays_30 rfl rfl ?_
    obtain ⟨q3, h⟩ := h
    refine z_callS (As := [z_i x2, z_i x3]) (rest := [z_r 172]) zmX9_pair ztX9_pair zlRX9_106 ⟨Nat.le_of_ble_eq_true rfl, Nat.le_of_ble_eq_true rfl⟩ dX9_lays_31 rfl rfl (z_ai (z_ai z_a0)) (Nat.le_of_ble_eq_true rfl) (Nat.le_of_ble_eq_true rfl) ⟨Nat.le_refl _, Nat.le_refl _⟩ ?_
    refine t_X9_pair  q3 ?_
    show z_Sem mX9_lays (sh.length, 0) 34 [(0, z_r 161), (1, z_i x1), (2, z_i x2), (3, z_i x3)] [z_i (f_X9_pair w x2 x3), z_r 172] (sh, w) Q
    refine z_iload_n 2 dX9_lays_34 rfl rfl ?_
    refine z_iload_n 3 dX9_lays_35 rfl rfl ?_
    suffices hJ4 : z_Sem mX9_lays (sh.length, 0) 45 [(0, z_r 161), (1, z_i x1), (2, z_i x2), (3, z_i x3)] [z_i (if x2 = x3 then 0 else 1000000), z_i (f_X9_pair w x2 x3), z_r 172] (sh, w) Q by
      refine z_icmp_ne (tgt := 43) dX9_lays_36 (by decide) (fun c5 => ?_) (fun c5 => ?_)
      · skip
        refine z_ldc (n := 1000000) zkRX9_112 dX9_lays_43 (by decide) (by decide) ?_
        simp only [if_neg c5] at hJ4
        exact hJ4
      · skip
        refine z_iconst dX9_lays_39 (by decide) ?_
        refine z_goto (tgt := 45) dX9_lays_40 (by decide) ?_
        simp only [if_pos c5] at hJ4
        exact hJ4
    obtain ⟨q9, h⟩ := h
    refine z_iast dX9_lays_45 hh0.2.2.2.2.2.2.2.2.2.2.2.1 q9 ?_
    refine z_genw (fun w8 hw8 => ?_)
    replace h := h w8 hw8
    obtain ⟨q10, h⟩ := h
    refine z_iinc (L' := [(3, z_i (x3 + 1)), (0, z_r 161), (1, z_i x1), (2, z_i x2)]) 3 dX9_lays_46 rfl (by decide) rfl q10 ?_
    refine z_goto (tgt := 20) dX9_lays_49 (by decide) ?_
    refine z_sub (L' := [(0, z_r 161), (1, z_i x1), (2, z_i x2), (3, z_i (x3 + 1))]) [1, 2, 3, 0] rfl ?_
    exact h
set_option maxRecDepth 100000 in
theorem t_X9_lays_128 {sh : List z_C} {w : Nat → Int → Int} {Q : Option z_V → z_S → Prop} {x1 : Int} {x2 : Int} (hh0 : z_isMod sh 161) (h : ((x1 ≤ x2 → z_Sem mX9_lays (sh.length, 0) 238 [(0, z_r 161), (1, z_i x1), (2, z_i 1), (3, z_i 0)] [] (sh, w) Q) ∧ (¬ x1 ≤ x2 → z_Sem mX9_lays (sh.length, 0) 135 [(0, z_r 161), (1, z_i x1), (2, z_i x2), (3, z_i 0)] [] (sh, w) Q))) : z_Sem mX9_lays (sh.length, 0) 128 [(0, z_r 161), (1, z_i x1), (2, z_i x2)] [] (sh, w) Q := by
  refine z_iload_n 2 dX9_lays_128 rfl rfl ?_
  refine z_iload_n 1 dX9_lays_129 rfl rfl ?_
  refine z_icmp_ge (tgt := 234) dX9_lays_130 (by decide) (fun c1 => ?_) (fun c1 => ?_)
  · replace h := h.1 c1
    refine z_iconst dX9_lays_234 (by decide) ?_
    refine z_istore_n (L' := [(2, z_i 1), (0, z_r 161), (1, z_i x1)]) dX9_lays_235 rfl (by decide) rfl ?_
    refine z_iconst dX9_lays_236 (by decide) ?_
    refine z_istore_n (L' := [(3, z_i 0), (2, z_i 1), (0, z_r 161), (1, z_i x1)]) dX9_lays_237 rfl (by decide) rfl ?_
    refine z_sub (L' := [(0, z_r 161), (1, z_i x1), (2, z_i 1), (3, z_i 0)]) [2, 3, 1, 0] rfl ?_
    exact h
  · replace h := h.2 c1
    refine z_iconst dX9_lays_133 (by decide) ?_
    refine z_istore_n (L' := [(3, z_i 0), (0, z_r 161), (1, z_i x1), (2, z_i x2)]) dX9_lays_134 rfl (by decide) rfl ?_
    refine z_sub (L' := [(0, z_r 161), (1, z_i x1), (2, z_i x2), (3, z_i 0)]) [1, 2, 3, 0] rfl ?_
    exact h
set_option maxRecDepth 100000 in
theorem t_X9_lays_238 {sh : List z_C} {w : Nat → Int → Int} {Q : Option z_V → z_S → Prop} {x1 : Int} {x2 : Int} {x3 : Int} (hh0 : z_isMod sh 161) (h : ((x1 ≤ x3 → ((0 : Int) ≤ x2 ∧ x2 ≤ 1) ∧ Q (some (z_i x2)) (sh, w)) ∧ (¬ x1 ≤ x3 → (¬ x2 = 0 → (s_X9_boundOf w x3 x3) ∧ True) ∧ ∀ y13 : Int, y13 = (if x2 = 0 then 0 else if (f_X9_boundOf w x3 x3) < 0 then 0 else 1) → (z_R (x3 + 1)) ∧ z_Sem mX9_lays (sh.length, 0) 238 [(0, z_r 161), (1, z_i x1), (2, z_i y13), (3, z_i (x3 + 1))] [] (sh, w) Q))) : z_Sem mX9_lays (sh.length, 0) 238 [(0, z_r 161), (1, z_i x1), (2, z_i x2), (3, z_i x3)] [] (sh, w) Q := by
  refine z_iload_n 3 dX9_lays_238 rfl rfl ?_
  refine z_iload_n 1 dX9_lays_239 rfl rfl ?_
  refine z_icmp_ge (tgt := 268) dX9_lays_240 (by decide) (fun c1 => ?_) (fun c1 => ?_)
  · replace h := h.1 c1
    refine z_iload_n 2 dX9_lays_268 rfl rfl ?_
    obtain ⟨q2, h⟩ := h
    exact z_ret (v := some (z_i x2)) dX9_lays_269 ⟨rfl, Or.inr (Or.inl ⟨rfl, q2⟩)⟩ rfl rfl h
  · replace h := h.2 c1
    refine z_iload_n 2 dX9_lays_243 rfl rfl ?_
    obtain ⟨m5, h⟩ := h
    suffices hJ3 : z_Sem mX9_lays (sh.length, 0) 261 [(0, z_r 161), (1, z_i x1), (3, z_i x3)] [z_i (if x2 = 0 then 0 else if (f_X9_boundOf w x3 x3) < 0 then 0 else 1)] (sh, w) Q by
      refine z_if_eq (tgt := 260) dX9_lays_244 (by decide) (fun c4 => ?_) (fun c4 => ?_)
      · skip
        refine z_iconst dX9_lays_260 (by decide) ?_
        refine z_sub (L' := [(0, z_r 161), (1, z_i x1), (3, z_i x3)]) [0, 1, 3] rfl ?_
        simp only [if_pos c4] at hJ3
        exact hJ3
      · skip
        have ho7 := m5 c4
        refine z_aload_n 0 dX9_lays_247 rfl rfl ?_
        refine z_iload_n 3 dX9_lays_248 rfl rfl ?_
        refine z_iload_n 3 dX9_lays_249 rfl rfl ?_
        obtain ⟨q8, ho7⟩ := ho7
        refine z_callV (As := [z_i x3, z_i x3]) (rest := []) zmX9_boundOf znX9_boundOf zsX9_boundOf (show vwCl[9]? = some (RX9, TX9, 29) from rfl) zlRX9_113 ⟨Nat.le_of_ble_eq_true rfl, Nat.le_of_ble_eq_true rfl⟩ dX9_lays_250 hh0.1 rfl rfl (z_ai (z_ai z_a0)) (Nat.le_of_ble_eq_true rfl) (Nat.le_of_ble_eq_true rfl) ⟨Nat.le_refl _, Nat.le_refl _⟩ ?_
        refine t_X9_boundOf hh0 q8 ?_
        show z_Sem mX9_lays (sh.length, 0) 253 [(0, z_r 161), (1, z_i x1), (2, z_i x2), (3, z_i x3)] [z_i (f_X9_boundOf w x3 x3)] (sh, w) Q
        suffices hJ9 : z_Sem mX9_lays (sh.length, 0) 261 [(0, z_r 161), (1, z_i x1), (3, z_i x3)] [z_i (if (f_X9_boundOf w x3 x3) < 0 then 0 else 1)] (sh, w) Q by
          refine z_if_lt (tgt := 260) dX9_lays_253 (by decide) (fun c10 => ?_) (fun c10 => ?_)
          · skip
            refine z_iconst dX9_lays_260 (by decide) ?_
            refine z_sub (L' := [(0, z_r 161), (1, z_i x1), (3, z_i x3)]) [0, 1, 3] rfl ?_
            simp only [if_pos c10] at hJ9
            exact hJ9
          · skip
            refine z_iconst dX9_lays_256 (by decide) ?_
            refine z_goto (tgt := 261) dX9_lays_257 (by decide) ?_
            refine z_sub (L' := [(0, z_r 161), (1, z_i x1), (3, z_i x3)]) [0, 1, 3] rfl ?_
            simp only [if_neg c10] at hJ9
            exact hJ9
        simp only [if_neg c4] at hJ3
        exact hJ3
    refine z_nam (fun y13 hy13 => ?_)
    replace h := h y13 hy13
    refine z_istore_n (L' := [(2, z_i y13), (0, z_r 161), (1, z_i x1), (3, z_i x3)]) dX9_lays_261 rfl (by decide) rfl ?_
    obtain ⟨q14, h⟩ := h
    refine z_iinc (L' := [(3, z_i (x3 + 1)), (2, z_i y13), (0, z_r 161), (1, z_i x1)]) 3 dX9_lays_262 rfl (by decide) rfl q14 ?_
    refine z_goto (tgt := 238) dX9_lays_265 (by decide) ?_
    refine z_sub (L' := [(0, z_r 161), (1, z_i x1), (2, z_i y13), (3, z_i (x3 + 1))]) [2, 3, 1, 0] rfl ?_
    exact h
set_option maxRecDepth 100000 in
theorem t_X9_lays_135 {sh : List z_C} {w : Nat → Int → Int} {Q : Option z_V → z_S → Prop} {x1 : Int} {x2 : Int} {x3 : Int} (hh0 : z_isMod sh 161) (h : ((x1 ≤ x3 → (z_R (x2 + 1)) ∧ z_Sem mX9_lays (sh.length, 0) 128 [(0, z_r 161), (1, z_i x1), (2, z_i (x2 + 1))] [] (sh, w) Q) ∧ (¬ x1 ≤ x3 → z_Sem mX9_lays (sh.length, 0) 143 [(0, z_r 161), (1, z_i x1), (2, z_i x2), (3, z_i x3), (4, z_i 0)] [] (sh, w) Q))) : z_Sem mX9_lays (sh.length, 0) 135 [(0, z_r 161), (1, z_i x1), (2, z_i x2), (3, z_i x3)] [] (sh, w) Q := by
  refine z_iload_n 3 dX9_lays_135 rfl rfl ?_
  refine z_iload_n 1 dX9_lays_136 rfl rfl ?_
  refine z_icmp_ge (tgt := 228) dX9_lays_137 (by decide) (fun c1 => ?_) (fun c1 => ?_)
  · replace h := h.1 c1
    obtain ⟨q2, h⟩ := h
    refine z_iinc (L' := [(2, z_i (x2 + 1)), (0, z_r 161), (1, z_i x1), (3, z_i x3)]) 2 dX9_lays_228 rfl (by decide) rfl q2 ?_
    refine z_goto (tgt := 128) dX9_lays_231 (by decide) ?_
    refine z_sub (L' := [(0, z_r 161), (1, z_i x1), (2, z_i (x2 + 1))]) [1, 2, 0] rfl ?_
    exact h
  · replace h := h.2 c1
    refine z_iconst dX9_lays_140 (by decide) ?_
    refine z_istore (L' := [(4, z_i 0), (0, z_r 161), (1, z_i x1), (2, z_i x2), (3, z_i x3)]) dX9_lays_141 (by decide) rfl ?_
    refine z_sub (L' := [(0, z_r 161), (1, z_i x1), (2, z_i x2), (3, z_i x3), (4, z_i 0)]) [1, 2, 3, 4, 0] rfl ?_
    exact h
set_option maxRecDepth 100000 in
theorem t_X9_lays_143 {sh : List z_C} {w : Nat → Int → Int} {Q : Option z_V → z_S → Prop} {x1 : Int} {x2 : Int} {x3 : Int} {x4 : Int} (hh0 : z_isMod sh 161) (h : ((x1 ≤ x4 → (z_R (x3 + 1)) ∧ z_Sem mX9_lays (sh.length, 0) 135 [(0, z_r 161), (1, z_i x1), (2, z_i x2), (3, z_i (x3 + 1))] [] (sh, w) Q) ∧ (¬ x1 ≤ x4 → (s_X9_boundOf w x3 x2) ∧ (s_X9_boundOf w x2 x4) ∧ (z_R ((f_X9_boundOf w x3 x2) + (f_X9_boundOf w x2 x4))) ∧ ∀ y6 : Int, y6 = ((f_X9_boundOf w x3 x2) + (f_X9_boundOf w x2 x4)) → ∀ y11 : Int, y11 = (if (-1000000) ≤ y6 then y6 else -1000000) → (s_X9_pair w x3 x4) ∧ (s_X9_boundOf w x3 x4) ∧ ((f_X9_boundOf w x3 x4) ≤ y11 → (s_X9_boundOf w x3 x4) ∧ True) ∧ ((0 : Int) ≤ (f_X9_pair w x3 x4) ∧ (f_X9_pair w x3 x4) < 100) ∧ ∀ w20 : Nat → Int → Int, w20 = z_W w 172 (f_X9_pair w x3 x4) (if (f_X9_boundOf w x3 x4) ≤ y11 then f_X9_boundOf w x3 x4 else y11) → (z_R (x4 + 1)) ∧ z_Sem mX9_lays (sh.length, 0) 143 [(0, z_r 161), (1, z_i x1), (2, z_i x2), (3, z_i x3), (4, z_i (x4 + 1))] [] (sh, w20) Q))) : z_Sem mX9_lays (sh.length, 0) 143 [(0, z_r 161), (1, z_i x1), (2, z_i x2), (3, z_i x3), (4, z_i x4)] [] (sh, w) Q := by
  refine z_iload 4 dX9_lays_143 rfl ?_
  refine z_iload_n 1 dX9_lays_145 rfl rfl ?_
  refine z_icmp_ge (tgt := 222) dX9_lays_146 (by decide) (fun c1 => ?_) (fun c1 => ?_)
  · replace h := h.1 c1
    obtain ⟨q2, h⟩ := h
    refine z_iinc (L' := [(3, z_i (x3 + 1)), (0, z_r 161), (1, z_i x1), (2, z_i x2), (4, z_i x4)]) 3 dX9_lays_222 rfl (by decide) rfl q2 ?_
    refine z_goto (tgt := 135) dX9_lays_225 (by decide) ?_
    refine z_sub (L' := [(0, z_r 161), (1, z_i x1), (2, z_i x2), (3, z_i (x3 + 1))]) [1, 2, 3, 0] rfl ?_
    exact h
  · replace h := h.2 c1
    refine z_aload_n 0 dX9_lays_149 rfl rfl ?_
    refine z_iload_n 3 dX9_lays_150 rfl rfl ?_
    refine z_iload_n 2 dX9_lays_151 rfl rfl ?_
    obtain ⟨q3, h⟩ := h
    refine z_callV (As := [z_i x3, z_i x2]) (rest := []) zmX9_boundOf znX9_boundOf zsX9_boundOf (show vwCl[9]? = some (RX9, TX9, 29) from rfl) zlRX9_113 ⟨Nat.le_of_ble_eq_true rfl, Nat.le_of_ble_eq_true rfl⟩ dX9_lays_152 hh0.1 rfl rfl (z_ai (z_ai z_a0)) (Nat.le_of_ble_eq_true rfl) (Nat.le_of_ble_eq_true rfl) ⟨Nat.le_refl _, Nat.le_refl _⟩ ?_
    refine t_X9_boundOf hh0 q3 ?_
    show z_Sem mX9_lays (sh.length, 0) 155 [(0, z_r 161), (1, z_i x1), (2, z_i x2), (3, z_i x3), (4, z_i x4)] [z_i (f_X9_boundOf w x3 x2)] (sh, w) Q
    refine z_aload_n 0 dX9_lays_155 rfl rfl ?_
    refine z_iload_n 2 dX9_lays_156 rfl rfl ?_
    refine z_iload 4 dX9_lays_157 rfl ?_
    obtain ⟨q4, h⟩ := h
    refine z_callV (As := [z_i x2, z_i x4]) (rest := [z_i (f_X9_boundOf w x3 x2)]) zmX9_boundOf znX9_boundOf zsX9_boundOf (show vwCl[9]? = some (RX9, TX9, 29) from rfl) zlRX9_113 ⟨Nat.le_of_ble_eq_true rfl, Nat.le_of_ble_eq_true rfl⟩ dX9_lays_159 hh0.1 rfl rfl (z_ai (z_ai z_a0)) (Nat.le_of_ble_eq_true rfl) (Nat.le_of_ble_eq_true rfl) ⟨Nat.le_refl _, Nat.le_refl _⟩ ?_
    refine t_X9_boundOf hh0 q4 ?_
    show z_Sem mX9_lays (sh.length, 0) 162 [(0, z_r 161), (1, z_i x1), (2, z_i x2), (3, z_i x3), (4, z_i x4)] [z_i (f_X9_boundOf w x2 x4), z_i (f_X9_boundOf w x3 x2)] (sh, w) Q
    obtain ⟨q5, h⟩ := h
    refine z_iadd dX9_lays_162 q5 ?_
    refine z_nam (fun y6 hy6 => ?_)
    replace h := h y6 hy6
    refine z_istore (L' := [(5, z_i y6), (0, z_r 161), (1, z_i x1), (2, z_i x2), (3, z_i x3), (4, z_i x4)]) dX9_lays_163 (by decide) rfl ?_
    refine z_iload 0 dX9_lays_165 rfl ?_
    refine z_ldc (n := -1000000) zkRX9_116 dX9_lays_167 (by decide) (by decide) ?_
    suffices hJ7 : z_Sem mX9_lays (sh.length, 0) 179 [(0, z_r 161), (1, z_i x1), (2, z_i x2), (3, z_i x3), (4, z_i x4)] [z_i (if (-1000000) ≤ y6 then y6 else -1000000)] (sh, w) Q by
      refine z_icmp_ge (tgt := 177) dX9_lays_169 (by decide) (fun c8 => ?_) (fun c8 => ?_)
      · skip
        refine z_iload 0 dX9_lays_177 rfl ?_
        refine z_sub (L' := [(0, z_r 161), (1, z_i x1), (2, z_i x2), (3, z_i x3), (4, z_i x4)]) [1, 2, 3, 4, 5] rfl ?_
        simp only [if_pos c8] at hJ7
        exact hJ7
      · skip
        refine z_ldc (n := -1000000) zkRX9_116 dX9_lays_172 (by decide) (by decide) ?_
        refine z_goto (tgt := 179) dX9_lays_174 (by decide) ?_
        refine z_sub (L' := [(0, z_r 161), (1, z_i x1), (2, z_i x2), (3, z_i x3), (4, z_i x4)]) [1, 2, 3, 4, 5] rfl ?_
        simp only [if_neg c8] at hJ7
        exact hJ7
    refine z_nam (fun y11 hy11 => ?_)
    replace h := h y11 hy11
    refine z_istore (L' := [(5, z_i y11), (0, z_r 161), (1, z_i x1), (2, z_i x2), (3, z_i x3), (4, z_i x4)]) dX9_lays_179 (by decide) rfl ?_
    refine z_aload_n 1 dX9_lays_181 rfl rfl ?_
    refine z_getR (r := 172) zfRX9_46 dX9_lays_182 hh0.1 rfl ?_
    refine z_iload_n 4 dX9_lays_185 rfl rfl ?_
    refine z_iload 5 dX9_lays_186 rfl ?_
    obtain ⟨q12, h⟩ := h
    refine z_callS (As := [z_i x3, z_i x4]) (rest := [z_r 172]) zmX9_pair ztX9_pair zlRX9_106 ⟨Nat.le_of_ble_eq_true rfl, Nat.le_of_ble_eq_true rfl⟩ dX9_lays_188 rfl rfl (z_ai (z_ai z_a0)) (Nat.le_of_ble_eq_true rfl) (Nat.le_of_ble_eq_true rfl) ⟨Nat.le_refl _, Nat.le_refl _⟩ ?_
    refine t_X9_pair  q12 ?_
    show z_Sem mX9_lays (sh.length, 0) 191 [(5, z_i y11), (0, z_r 161), (1, z_i x1), (2, z_i x2), (3, z_i x3), (4, z_i x4)] [z_i (f_X9_pair w x3 x4), z_r 172] (sh, w) Q
    refine z_iload 0 dX9_lays_191 rfl ?_
    refine z_aload_n 1 dX9_lays_193 rfl rfl ?_
    refine z_iload_n 4 dX9_lays_194 rfl rfl ?_
    refine z_iload 5 dX9_lays_195 rfl ?_
    obtain ⟨q13, h⟩ := h
    refine z_callV (As := [z_i x3, z_i x4]) (rest := [z_i y11, z_i (f_X9_pair w x3 x4), z_r 172]) zmX9_boundOf znX9_boundOf zsX9_boundOf (show vwCl[9]? = some (RX9, TX9, 29) from rfl) zlRX9_113 ⟨Nat.le_of_ble_eq_true rfl, Nat.le_of_ble_eq_true rfl⟩ dX9_lays_197 hh0.1 rfl rfl (z_ai (z_ai z_a0)) (Nat.le_of_ble_eq_true rfl) (Nat.le_of_ble_eq_true rfl) ⟨Nat.le_refl _, Nat.le_refl _⟩ ?_
    refine t_X9_boundOf hh0 q13 ?_
    show z_Sem mX9_lays (sh.length, 0) 200 [(5, z_i y11), (0, z_r 161), (1, z_i x1), (2, z_i x2), (3, z_i x3), (4, z_i x4)] [z_i (f_X9_boundOf w x3 x4), z_i y11, z_i (f_X9_pair w x3 x4), z_r 172] (sh, w) Q
    obtain ⟨m16, h⟩ := h
    suffices hJ14 : z_Sem mX9_lays (sh.length, 0) 215 [(0, z_r 161), (1, z_i x1), (2, z_i x2), (3, z_i x3), (4, z_i x4)] [z_i (if (f_X9_boundOf w x3 x4) ≤ y11 then f_X9_boundOf w x3 x4 else y11), z_i (f_X9_pair w x3 x4), z_r 172] (sh, w) Q by
      refine z_icmp_ge (tgt := 208) dX9_lays_200 (by decide) (fun c15 => ?_) (fun c15 => ?_)
      · skip
        have ho17 := m16 c15
        refine z_aload_n 1 dX9_lays_208 rfl rfl ?_
        refine z_iload_n 4 dX9_lays_209 rfl rfl ?_
        refine z_iload 5 dX9_lays_210 rfl ?_
        obtain ⟨q18, ho17⟩ := ho17
        refine z_callV (As := [z_i x3, z_i x4]) (rest := [z_i (f_X9_pair w x3 x4), z_r 172]) zmX9_boundOf znX9_boundOf zsX9_boundOf (show vwCl[9]? = some (RX9, TX9, 29) from rfl) zlRX9_113 ⟨Nat.le_of_ble_eq_true rfl, Nat.le_of_ble_eq_true rfl⟩ dX9_lays_212 hh0.1 rfl rfl (z_ai (z_ai z_a0)) (Nat.le_of_ble_eq_true rfl) (Nat.le_of_ble_eq_true rfl) ⟨Nat.le_refl _, Nat.le_refl _⟩ ?_
        refine t_X9_boundOf hh0 q18 ?_
        show z_Sem mX9_lays (sh.length, 0) 215 [(5, z_i y11), (0, z_r 161), (1, z_i x1), (2, z_i x2), (3, z_i x3), (4, z_i x4)] [z_i (f_X9_boundOf w x3 x4), z_i (f_X9_pair w x3 x4), z_r 172] (sh, w) Q
        refine z_sub (L' := [(0, z_r 161), (1, z_i x1), (2, z_i x2), (3, z_i x3), (4, z_i x4)]) [1, 2, 3, 4, 5] rfl ?_
        simp only [if_pos c15] at hJ14
        exact hJ14
      · skip
        refine z_iload 0 dX9_lays_203 rfl ?_
        refine z_goto (tgt := 215) dX9_lays_205 (by decide) ?_
        refine z_sub (L' := [(0, z_r 161), (1, z_i x1), (2, z_i x2), (3, z_i x3), (4, z_i x4)]) [1, 2, 3, 4, 5] rfl ?_
        simp only [if_neg c15] at hJ14
        exact hJ14
    obtain ⟨q21, h⟩ := h
    refine z_iast dX9_lays_215 hh0.2.2.2.2.2.2.2.2.2.2.2.1 q21 ?_
    refine z_genw (fun w20 hw20 => ?_)
    replace h := h w20 hw20
    obtain ⟨q22, h⟩ := h
    refine z_iinc (L' := [(4, z_i (x4 + 1)), (0, z_r 161), (1, z_i x1), (2, z_i x2), (3, z_i x3)]) 4 dX9_lays_216 rfl (by decide) rfl q22 ?_
    refine z_goto (tgt := 143) dX9_lays_219 (by decide) ?_
    refine z_sub (L' := [(0, z_r 161), (1, z_i x1), (2, z_i x2), (3, z_i x3), (4, z_i (x4 + 1))]) [1, 2, 3, 4, 0] rfl ?_
    exact h
def f_X9_earliest (w : Nat → Int → Int) (x1 : Int) : Int := -(f_X9_boundOf w x1 0)
def s_X9_earliest (w : Nat → Int → Int) (x1 : Int) : Prop := (s_X9_boundOf w x1 0) ∧ (z_R (-(f_X9_boundOf w x1 0))) ∧ True
set_option maxRecDepth 100000 in
theorem t_X9_earliest {sh : List z_C} {w : Nat → Int → Int} {Q : Option z_V → z_S → Prop} {x1 : Int} (hh0 : z_isMod sh 161) (hs : s_X9_earliest w x1) (h : Q (some (z_i (f_X9_earliest w x1))) (sh, w)) : z_Sem mX9_earliest (sh.length, 0) 0 [(0, z_r 161), (1, z_i x1)] [] (sh, w) Q := by
  unfold f_X9_earliest at h
  unfold s_X9_earliest at hs
  refine z_aload_n 0 dX9_earliest_0 rfl rfl ?_
  refine z_iload_n 1 dX9_earliest_1 rfl rfl ?_
  refine z_iconst dX9_earliest_2 (by decide) ?_
  obtain ⟨q1, hs⟩ := hs
  refine z_callV (As := [z_i x1, z_i 0]) (rest := []) zmX9_boundOf znX9_boundOf zsX9_boundOf (show vwCl[9]? = some (RX9, TX9, 29) from rfl) zlRX9_113 ⟨Nat.le_of_ble_eq_true rfl, Nat.le_of_ble_eq_true rfl⟩ dX9_earliest_3 hh0.1 rfl rfl (z_ai (z_ai z_a0)) (Nat.le_of_ble_eq_true rfl) (Nat.le_of_ble_eq_true rfl) ⟨Nat.le_refl _, Nat.le_refl _⟩ ?_
  refine t_X9_boundOf hh0 q1 ?_
  show z_Sem mX9_earliest (sh.length, 0) 6 [(0, z_r 161), (1, z_i x1)] [z_i (f_X9_boundOf w x1 0)] (sh, w) Q
  obtain ⟨q2, hs⟩ := hs
  refine z_ineg dX9_earliest_6 q2 ?_
  exact z_ret (v := some (z_i (-(f_X9_boundOf w x1 0)))) dX9_earliest_7 ⟨rfl, Or.inl rfl⟩ rfl rfl h
def f_X9_latest (w : Nat → Int → Int) (x1 : Int) : Int := f_X9_boundOf w 0 x1
def s_X9_latest (w : Nat → Int → Int) (x1 : Int) : Prop := (s_X9_boundOf w 0 x1) ∧ True
set_option maxRecDepth 100000 in
theorem t_X9_latest {sh : List z_C} {w : Nat → Int → Int} {Q : Option z_V → z_S → Prop} {x1 : Int} (hh0 : z_isMod sh 161) (hs : s_X9_latest w x1) (h : Q (some (z_i (f_X9_latest w x1))) (sh, w)) : z_Sem mX9_latest (sh.length, 0) 0 [(0, z_r 161), (1, z_i x1)] [] (sh, w) Q := by
  unfold f_X9_latest at h
  unfold s_X9_latest at hs
  refine z_aload_n 0 dX9_latest_0 rfl rfl ?_
  refine z_iconst dX9_latest_1 (by decide) ?_
  refine z_iload_n 1 dX9_latest_2 rfl rfl ?_
  obtain ⟨q1, hs⟩ := hs
  refine z_callV (As := [z_i 0, z_i x1]) (rest := []) zmX9_boundOf znX9_boundOf zsX9_boundOf (show vwCl[9]? = some (RX9, TX9, 29) from rfl) zlRX9_113 ⟨Nat.le_of_ble_eq_true rfl, Nat.le_of_ble_eq_true rfl⟩ dX9_latest_3 hh0.1 rfl rfl (z_ai (z_ai z_a0)) (Nat.le_of_ble_eq_true rfl) (Nat.le_of_ble_eq_true rfl) ⟨Nat.le_refl _, Nat.le_refl _⟩ ?_
  refine t_X9_boundOf hh0 q1 ?_
  show z_Sem mX9_latest (sh.length, 0) 6 [(0, z_r 161), (1, z_i x1)] [z_i (f_X9_boundOf w 0 x1)] (sh, w) Q
  exact z_ret (v := some (z_i (f_X9_boundOf w 0 x1))) dX9_latest_6 ⟨rfl, Or.inl rfl⟩ rfl rfl h
def f_X9_roomOf (w : Nat → Int → Int) (x1 : Int) : Int := (f_X9_latest w x1) - (f_X9_earliest w x1)
def s_X9_roomOf (w : Nat → Int → Int) (x1 : Int) : Prop := (s_X9_latest w x1) ∧ (s_X9_earliest w x1) ∧ (z_R ((f_X9_latest w x1) - (f_X9_earliest w x1))) ∧ True
set_option maxRecDepth 100000 in
theorem t_X9_roomOf {sh : List z_C} {w : Nat → Int → Int} {Q : Option z_V → z_S → Prop} {x1 : Int} (hh0 : z_isMod sh 161) (hs : s_X9_roomOf w x1) (h : Q (some (z_i (f_X9_roomOf w x1))) (sh, w)) : z_Sem mX9_roomOf (sh.length, 0) 0 [(0, z_r 161), (1, z_i x1)] [] (sh, w) Q := by
  unfold f_X9_roomOf at h
  unfold s_X9_roomOf at hs
  refine z_aload_n 0 dX9_roomOf_0 rfl rfl ?_
  refine z_iload_n 1 dX9_roomOf_1 rfl rfl ?_
  obtain ⟨q1, hs⟩ := hs
  refine z_callV (As := [z_i x1]) (rest := []) zmX9_latest znX9_latest zsX9_latest (show vwCl[9]? = some (RX9, TX9, 29) from rfl) zlRX9_117 ⟨Nat.le_of_ble_eq_true rfl, Nat.le_of_ble_eq_true rfl⟩ dX9_roomOf_2 hh0.1 rfl rfl (z_ai z_a0) (Nat.le_of_ble_eq_true rfl) (Nat.le_of_ble_eq_true rfl) ⟨Nat.le_refl _, Nat.le_refl _⟩ ?_
  refine t_X9_latest hh0 q1 ?_
  show z_Sem mX9_roomOf (sh.length, 0) 5 [(0, z_r 161), (1, z_i x1)] [z_i (f_X9_latest w x1)] (sh, w) Q
  refine z_aload_n 0 dX9_roomOf_5 rfl rfl ?_
  refine z_iload_n 1 dX9_roomOf_6 rfl rfl ?_
  obtain ⟨q2, hs⟩ := hs
  refine z_callV (As := [z_i x1]) (rest := [z_i (f_X9_latest w x1)]) zmX9_earliest znX9_earliest zsX9_earliest (show vwCl[9]? = some (RX9, TX9, 29) from rfl) zlRX9_120 ⟨Nat.le_of_ble_eq_true rfl, Nat.le_of_ble_eq_true rfl⟩ dX9_roomOf_7 hh0.1 rfl rfl (z_ai z_a0) (Nat.le_of_ble_eq_true rfl) (Nat.le_of_ble_eq_true rfl) ⟨Nat.le_refl _, Nat.le_refl _⟩ ?_
  refine t_X9_earliest hh0 q2 ?_
  show z_Sem mX9_roomOf (sh.length, 0) 10 [(0, z_r 161), (1, z_i x1)] [z_i (f_X9_earliest w x1), z_i (f_X9_latest w x1)] (sh, w) Q
  obtain ⟨q3, hs⟩ := hs
  refine z_isub dX9_roomOf_10 q3 ?_
  exact z_ret (v := some (z_i ((f_X9_latest w x1) - (f_X9_earliest w x1)))) dX9_roomOf_11 ⟨rfl, Or.inl rfl⟩ rfl rfl h
set_option maxRecDepth 100000 in
theorem t_X9_allRoom {sh : List z_C} {w : Nat → Int → Int} {Q : Option z_V → z_S → Prop}  (hh0 : z_isMod sh 161) (h : z_Sem mX9_allRoom (sh.length, 0) 4 [(0, z_r 161), (1, z_i 0), (2, z_i 0)] [] (sh, w) Q) : z_Sem mX9_allRoom (sh.length, 0) 0 [(0, z_r 161)] [] (sh, w) Q := by
  refine z_iconst dX9_allRoom_0 (by decide) ?_
  refine z_istore_n (L' := [(1, z_i 0), (0, z_r 161)]) dX9_allRoom_1 rfl (by decide) rfl ?_
  refine z_iconst dX9_allRoom_2 (by decide) ?_
  refine z_istore_n (L' := [(2, z_i 0), (1, z_i 0), (0, z_r 161)]) dX9_allRoom_3 rfl (by decide) rfl ?_
  refine z_sub (L' := [(0, z_r 161), (1, z_i 0), (2, z_i 0)]) [2, 1, 0] rfl ?_
  exact h
set_option maxRecDepth 100000 in
theorem t_X9_allRoom_4 {sh : List z_C} {w : Nat → Int → Int} {Q : Option z_V → z_S → Prop} {x1 : Int} {x2 : Int} (hh0 : z_isMod sh 161) (h : (((w 163 1) ≤ x2 → Q (some (z_i x1)) (sh, w)) ∧ (¬ (w 163 1) ≤ x2 → (s_X9_roomOf w x2) ∧ (z_R (x1 + (f_X9_roomOf w x2))) ∧ ∀ y4 : Int, y4 = (x1 + (f_X9_roomOf w x2)) → (z_R (x2 + 1)) ∧ z_Sem mX9_allRoom (sh.length, 0) 4 [(0, z_r 161), (1, z_i y4), (2, z_i (x2 + 1))] [] (sh, w) Q))) : z_Sem mX9_allRoom (sh.length, 0) 4 [(0, z_r 161), (1, z_i x1), (2, z_i x2)] [] (sh, w) Q := by
  refine z_iload_n 2 dX9_allRoom_4 rfl rfl ?_
  refine z_aload_n 0 dX9_allRoom_5 rfl rfl ?_
  refine z_getR (r := 163) zfRX9_17 dX9_allRoom_6 hh0.1 rfl ?_
  refine z_iconst dX9_allRoom_9 (by decide) ?_
  refine z_iald dX9_allRoom_10 hh0.2.2.1 (by decide) ?_
  refine z_icmp_ge (tgt := 28) dX9_allRoom_11 (by decide) (fun c1 => ?_) (fun c1 => ?_)
  · replace h := h.1 c1
    refine z_iload_n 1 dX9_allRoom_28 rfl rfl ?_
    exact z_ret (v := some (z_i x1)) dX9_allRoom_29 ⟨rfl, Or.inl rfl⟩ rfl rfl h
  · replace h := h.2 c1
    refine z_iload_n 1 dX9_allRoom_14 rfl rfl ?_
    refine z_aload_n 0 dX9_allRoom_15 rfl rfl ?_
    refine z_iload_n 2 dX9_allRoom_16 rfl rfl ?_
    obtain ⟨q2, h⟩ := h
    refine z_callV (As := [z_i x2]) (rest := [z_i x1]) zmX9_roomOf znX9_roomOf zsX9_roomOf (show vwCl[9]? = some (RX9, TX9, 29) from rfl) zlRX9_123 ⟨Nat.le_of_ble_eq_true rfl, Nat.le_of_ble_eq_true rfl⟩ dX9_allRoom_17 hh0.1 rfl rfl (z_ai z_a0) (Nat.le_of_ble_eq_true rfl) (Nat.le_of_ble_eq_true rfl) ⟨Nat.le_refl _, Nat.le_refl _⟩ ?_
    refine t_X9_roomOf hh0 q2 ?_
    show z_Sem mX9_allRoom (sh.length, 0) 20 [(0, z_r 161), (1, z_i x1), (2, z_i x2)] [z_i (f_X9_roomOf w x2), z_i x1] (sh, w) Q
    obtain ⟨q3, h⟩ := h
    refine z_iadd dX9_allRoom_20 q3 ?_
    refine z_nam (fun y4 hy4 => ?_)
    replace h := h y4 hy4
    refine z_istore_n (L' := [(1, z_i y4), (0, z_r 161), (2, z_i x2)]) dX9_allRoom_21 rfl (by decide) rfl ?_
    obtain ⟨q5, h⟩ := h
    refine z_iinc (L' := [(2, z_i (x2 + 1)), (1, z_i y4), (0, z_r 161)]) 2 dX9_allRoom_22 rfl (by decide) rfl q5 ?_
    refine z_goto (tgt := 4) dX9_allRoom_25 (by decide) ?_
    refine z_sub (L' := [(0, z_r 161), (1, z_i y4), (2, z_i (x2 + 1))]) [2, 1, 0] rfl ?_
    exact h
def f_X9_isTight (w : Nat → Int → Int) (x1 : Int) : Int := if (f_X9_isOn w x1) = 0 then 0 else if (f_X9_lengthOf w x1) = (f_X9_boundOf w (f_X9_fromOf w x1) (f_X9_toOf w x1)) then 1 else 0
def s_X9_isTight (w : Nat → Int → Int) (x1 : Int) : Prop := (s_X9_isOn w x1) ∧ (¬ (f_X9_isOn w x1) = 0 → (s_X9_lengthOf w x1) ∧ (s_X9_fromOf w x1) ∧ (s_X9_toOf w x1) ∧ (s_X9_boundOf w (f_X9_fromOf w x1) (f_X9_toOf w x1)) ∧ True) ∧ True
set_option maxRecDepth 100000 in
theorem t_X9_isTight {sh : List z_C} {w : Nat → Int → Int} {Q : Option z_V → z_S → Prop} {x1 : Int} (hh0 : z_isMod sh 161) (hs : s_X9_isTight w x1) (h : Q (some (z_i (f_X9_isTight w x1))) (sh, w)) : z_Sem mX9_isTight (sh.length, 0) 0 [(0, z_r 161), (1, z_i x1)] [] (sh, w) Q := by
  unfold f_X9_isTight at h
  unfold s_X9_isTight at hs
  refine z_aload_n 0 dX9_isTight_0 rfl rfl ?_
  refine z_iload_n 1 dX9_isTight_1 rfl rfl ?_
  obtain ⟨q1, hs⟩ := hs
  refine z_callV (As := [z_i x1]) (rest := []) zmX9_isOn znX9_isOn zsX9_isOn (show vwCl[9]? = some (RX9, TX9, 29) from rfl) zlRX9_87 ⟨Nat.le_of_ble_eq_true rfl, Nat.le_of_ble_eq_true rfl⟩ dX9_isTight_2 hh0.1 rfl rfl (z_ai z_a0) (Nat.le_of_ble_eq_true rfl) (Nat.le_of_ble_eq_true rfl) ⟨Nat.le_refl _, Nat.le_refl _⟩ ?_
  refine t_X9_isOn hh0 q1 ?_
  show z_Sem mX9_isTight (sh.length, 0) 5 [(0, z_r 161), (1, z_i x1)] [z_i (f_X9_isOn w x1)] (sh, w) Q
  obtain ⟨m4, hs⟩ := hs
  suffices hJ2 : z_Sem mX9_isTight (sh.length, 0) 35 [] [z_i (if (f_X9_isOn w x1) = 0 then 0 else if (f_X9_lengthOf w x1) = (f_X9_boundOf w (f_X9_fromOf w x1) (f_X9_toOf w x1)) then 1 else 0)] (sh, w) Q by
    refine z_if_eq (tgt := 34) dX9_isTight_5 (by decide) (fun c3 => ?_) (fun c3 => ?_)
    · skip
      refine z_iconst dX9_isTight_34 (by decide) ?_
      refine z_sub (L' := []) [] rfl ?_
      simp only [if_pos c3] at hJ2
      exact hJ2
    · skip
      have ho6 := m4 c3
      refine z_aload_n 0 dX9_isTight_8 rfl rfl ?_
      refine z_iload_n 1 dX9_isTight_9 rfl rfl ?_
      obtain ⟨q7, ho6⟩ := ho6
      refine z_callV (As := [z_i x1]) (rest := []) zmX9_lengthOf znX9_lengthOf zsX9_lengthOf (show vwCl[9]? = some (RX9, TX9, 29) from rfl) zlRX9_96 ⟨Nat.le_of_ble_eq_true rfl, Nat.le_of_ble_eq_true rfl⟩ dX9_isTight_10 hh0.1 rfl rfl (z_ai z_a0) (Nat.le_of_ble_eq_true rfl) (Nat.le_of_ble_eq_true rfl) ⟨Nat.le_refl _, Nat.le_refl _⟩ ?_
      refine t_X9_lengthOf hh0 q7 ?_
      show z_Sem mX9_isTight (sh.length, 0) 13 [(0, z_r 161), (1, z_i x1)] [z_i (f_X9_lengthOf w x1)] (sh, w) Q
      refine z_aload_n 0 dX9_isTight_13 rfl rfl ?_
      refine z_aload_n 0 dX9_isTight_14 rfl rfl ?_
      refine z_iload_n 1 dX9_isTight_15 rfl rfl ?_
      obtain ⟨q8, ho6⟩ := ho6
      refine z_callV (As := [z_i x1]) (rest := [z_r 161, z_i (f_X9_lengthOf w x1)]) zmX9_fromOf znX9_fromOf zsX9_fromOf (show vwCl[9]? = some (RX9, TX9, 29) from rfl) zlRX9_90 ⟨Nat.le_of_ble_eq_true rfl, Nat.le_of_ble_eq_true rfl⟩ dX9_isTight_16 hh0.1 rfl rfl (z_ai z_a0) (Nat.le_of_ble_eq_true rfl) (Nat.le_of_ble_eq_true rfl) ⟨Nat.le_refl _, Nat.le_refl _⟩ ?_
      refine t_X9_fromOf hh0 q8 ?_
      show z_Sem mX9_isTight (sh.length, 0) 19 [(0, z_r 161), (1, z_i x1)] [z_i (f_X9_fromOf w x1), z_r 161, z_i (f_X9_lengthOf w x1)] (sh, w) Q
      refine z_aload_n 0 dX9_isTight_19 rfl rfl ?_
      refine z_iload_n 1 dX9_isTight_20 rfl rfl ?_
      obtain ⟨q9, ho6⟩ := ho6
      refine z_callV (As := [z_i x1]) (rest := [z_i (f_X9_fromOf w x1), z_r 161, z_i (f_X9_lengthOf w x1)]) zmX9_toOf znX9_toOf zsX9_toOf (show vwCl[9]? = some (RX9, TX9, 29) from rfl) zlRX9_93 ⟨Nat.le_of_ble_eq_true rfl, Nat.le_of_ble_eq_true rfl⟩ dX9_isTight_21 hh0.1 rfl rfl (z_ai z_a0) (Nat.le_of_ble_eq_true rfl) (Nat.le_of_ble_eq_true rfl) ⟨Nat.le_refl _, Nat.le_refl _⟩ ?_
      refine t_X9_toOf hh0 q9 ?_
      show z_Sem mX9_isTight (sh.length, 0) 24 [(0, z_r 161), (1, z_i x1)] [z_i (f_X9_toOf w x1), z_i (f_X9_fromOf w x1), z_r 161, z_i (f_X9_lengthOf w x1)] (sh, w) Q
      obtain ⟨q10, ho6⟩ := ho6
      refine z_callV (As := [z_i (f_X9_fromOf w x1), z_i (f_X9_toOf w x1)]) (rest := [z_i (f_X9_lengthOf w x1)]) zmX9_boundOf znX9_boundOf zsX9_boundOf (show vwCl[9]? = some (RX9, TX9, 29) from rfl) zlRX9_113 ⟨Nat.le_of_ble_eq_true rfl, Nat.le_of_ble_eq_true rfl⟩ dX9_isTight_24 hh0.1 rfl rfl (z_ai (z_ai z_a0)) (Nat.le_of_ble_eq_true rfl) (Nat.le_of_ble_eq_true rfl) ⟨Nat.le_refl _, Nat.le_refl _⟩ ?_
      refine t_X9_boundOf hh0 q10 ?_
      show z_Sem mX9_isTight (sh.length, 0) 27 [(0, z_r 161), (1, z_i x1)] [z_i (f_X9_boundOf w (f_X9_fromOf w x1) (f_X9_toOf w x1)), z_i (f_X9_lengthOf w x1)] (sh, w) Q
      suffices hJ11 : z_Sem mX9_isTight (sh.length, 0) 35 [] [z_i (if (f_X9_lengthOf w x1) = (f_X9_boundOf w (f_X9_fromOf w x1) (f_X9_toOf w x1)) then 1 else 0)] (sh, w) Q by
        refine z_icmp_ne (tgt := 34) dX9_isTight_27 (by decide) (fun c12 => ?_) (fun c12 => ?_)
        · skip
          refine z_iconst dX9_isTight_34 (by decide) ?_
          refine z_sub (L' := []) [] rfl ?_
          simp only [if_neg c12] at hJ11
          exact hJ11
        · skip
          refine z_iconst dX9_isTight_30 (by decide) ?_
          refine z_goto (tgt := 35) dX9_isTight_31 (by decide) ?_
          refine z_sub (L' := []) [] rfl ?_
          simp only [if_pos c12] at hJ11
          exact hJ11
      simp only [if_neg c3] at hJ2
      exact hJ2
  exact z_ret (v := some (z_i (if (f_X9_isOn w x1) = 0 then 0 else if (f_X9_lengthOf w x1) = (f_X9_boundOf w (f_X9_fromOf w x1) (f_X9_toOf w x1)) then 1 else 0))) dX9_isTight_35 ⟨rfl, Or.inr (Or.inl ⟨rfl, (z_it01 (by decide) (z_it01 (by decide) (by decide)))⟩)⟩ rfl rfl h
set_option maxRecDepth 100000 in
theorem t_X9_isNeeded {sh : List z_C} {w : Nat → Int → Int} {Q : Option z_V → z_S → Prop} {x1 : Int} (hh0 : z_isMod sh 161) (h : z_CI mX9_lays [z_r 161] sh w (fun y2 w1 => (s_X9_isTight w1 x1) ∧ (((f_X9_isTight w1 x1) = 0 → Q (some (z_i 0)) (sh, w1)) ∧ (¬ (f_X9_isTight w1 x1) = 0 → z_CV mX9_puts [z_r 161, z_i x1, z_i 4, z_i 0] sh w1 (fun w5 => z_CI mX9_lays [z_r 161] sh w5 (fun y7 w6 => (s_X9_fromOf w6 x1) ∧ (s_X9_toOf w6 x1) ∧ (s_X9_boundOf w6 (f_X9_fromOf w6 x1) (f_X9_toOf w6 x1)) ∧ (s_X9_lengthOf w6 x1) ∧ ∀ y16 : Int, y16 = (if (f_X9_boundOf w6 (f_X9_fromOf w6 x1) (f_X9_toOf w6 x1)) ≤ (f_X9_lengthOf w6 x1) then 0 else 1) → z_CV mX9_puts [z_r 161, z_i x1, z_i 4, z_i 1] sh w6 (fun w17 => z_CI mX9_lays [z_r 161] sh w17 (fun y19 w18 => ((0 : Int) ≤ y16 ∧ y16 ≤ 1) ∧ Q (some (z_i y16)) (sh, w18))))))))) : z_Sem mX9_isNeeded (sh.length, 0) 0 [(0, z_r 161), (1, z_i x1)] [] (sh, w) Q := by
  refine z_aload_n 0 dX9_isNeeded_0 rfl rfl ?_
  refine z_callV (As := []) (rest := []) zmX9_lays znX9_lays zsX9_lays (show vwCl[9]? = some (RX9, TX9, 29) from rfl) zlRX9_126 ⟨Nat.le_of_ble_eq_true rfl, Nat.le_of_ble_eq_true rfl⟩ dX9_isNeeded_1 hh0.1 rfl rfl z_a0 (Nat.le_of_ble_eq_true rfl) (Nat.le_of_ble_eq_true rfl) ⟨Nat.le_refl _, Nat.le_refl _⟩ (z_CIm h ?_)
  intro y2 w1 h
  show z_Sem mX9_isNeeded (sh.length, 0) 4 [(0, z_r 161), (1, z_i x1)] [z_i y2] (sh, w1) Q
  refine z_istore_n (L' := [(2, z_i y2), (0, z_r 161), (1, z_i x1)]) dX9_isNeeded_4 rfl (by decide) rfl ?_
  refine z_aload_n 1 dX9_isNeeded_5 rfl rfl ?_
  refine z_iload_n 2 dX9_isNeeded_6 rfl rfl ?_
  obtain ⟨q3, h⟩ := h
  refine z_callV (As := [z_i x1]) (rest := []) zmX9_isTight znX9_isTight zsX9_isTight (show vwCl[9]? = some (RX9, TX9, 29) from rfl) zlRX9_130 ⟨Nat.le_of_ble_eq_true rfl, Nat.le_of_ble_eq_true rfl⟩ dX9_isNeeded_7 hh0.1 rfl rfl (z_ai z_a0) (Nat.le_of_ble_eq_true rfl) (Nat.le_of_ble_eq_true rfl) ⟨Nat.le_refl _, Nat.le_refl _⟩ ?_
  refine t_X9_isTight hh0 q3 ?_
  show z_Sem mX9_isNeeded (sh.length, 0) 10 [(2, z_i y2), (0, z_r 161), (1, z_i x1)] [z_i (f_X9_isTight w1 x1)] (sh, w1) Q
  refine z_if_ne (tgt := 15) dX9_isNeeded_10 (by decide) (fun c4 => ?_) (fun c4 => ?_)
  · replace h := h.2 c4
    refine z_aload_n 1 dX9_isNeeded_15 rfl rfl ?_
    refine z_iload_n 2 dX9_isNeeded_16 rfl rfl ?_
    refine z_iconst dX9_isNeeded_17 (by decide) ?_
    refine z_iconst dX9_isNeeded_18 (by decide) ?_
    refine z_callV (As := [z_i x1, z_i 4, z_i 0]) (rest := []) zmX9_puts znX9_puts zsX9_puts (show vwCl[9]? = some (RX9, TX9, 29) from rfl) zlRX9_133 ⟨Nat.le_of_ble_eq_true rfl, Nat.le_of_ble_eq_true rfl⟩ dX9_isNeeded_19 hh0.1 rfl rfl (z_ai (z_ai (z_ai z_a0))) (Nat.le_of_ble_eq_true rfl) (Nat.le_of_ble_eq_true rfl) ⟨Nat.le_refl _, Nat.le_refl _⟩ (z_CVm h ?_)
    intro w5 h
    show z_Sem mX9_isNeeded (sh.length, 0) 22 [(2, z_i y2), (0, z_r 161), (1, z_i x1)] [] (sh, w5) Q
    refine z_aload_n 1 dX9_isNeeded_22 rfl rfl ?_
    refine z_callV (As := []) (rest := []) zmX9_lays znX9_lays zsX9_lays (show vwCl[9]? = some (RX9, TX9, 29) from rfl) zlRX9_126 ⟨Nat.le_of_ble_eq_true rfl, Nat.le_of_ble_eq_true rfl⟩ dX9_isNeeded_23 hh0.1 rfl rfl z_a0 (Nat.le_of_ble_eq_true rfl) (Nat.le_of_ble_eq_true rfl) ⟨Nat.le_refl _, Nat.le_refl _⟩ (z_CIm h ?_)
    intro y7 w6 h
    show z_Sem mX9_isNeeded (sh.length, 0) 26 [(2, z_i y2), (0, z_r 161), (1, z_i x1)] [z_i y7] (sh, w6) Q
    refine z_istore_n (L' := [(2, z_i y7), (0, z_r 161), (1, z_i x1)]) dX9_isNeeded_26 rfl (by decide) rfl ?_
    refine z_aload_n 1 dX9_isNeeded_27 rfl rfl ?_
    refine z_aload_n 1 dX9_isNeeded_28 rfl rfl ?_
    refine z_iload_n 2 dX9_isNeeded_29 rfl rfl ?_
    obtain ⟨q8, h⟩ := h
    refine z_callV (As := [z_i x1]) (rest := [z_r 161]) zmX9_fromOf znX9_fromOf zsX9_fromOf (show vwCl[9]? = some (RX9, TX9, 29) from rfl) zlRX9_90 ⟨Nat.le_of_ble_eq_true rfl, Nat.le_of_ble_eq_true rfl⟩ dX9_isNeeded_30 hh0.1 rfl rfl (z_ai z_a0) (Nat.le_of_ble_eq_true rfl) (Nat.le_of_ble_eq_true rfl) ⟨Nat.le_refl _, Nat.le_refl _⟩ ?_
    refine t_X9_fromOf hh0 q8 ?_
    show z_Sem mX9_isNeeded (sh.length, 0) 33 [(2, z_i y7), (0, z_r 161), (1, z_i x1)] [z_i (f_X9_fromOf w6 x1), z_r 161] (sh, w6) Q
    refine z_aload_n 1 dX9_isNeeded_33 rfl rfl ?_
    refine z_iload_n 2 dX9_isNeeded_34 rfl rfl ?_
    obtain ⟨q9, h⟩ := h
    refine z_callV (As := [z_i x1]) (rest := [z_i (f_X9_fromOf w6 x1), z_r 161]) zmX9_toOf znX9_toOf zsX9_toOf (show vwCl[9]? = some (RX9, TX9, 29) from rfl) zlRX9_93 ⟨Nat.le_of_ble_eq_true rfl, Nat.le_of_ble_eq_true rfl⟩ dX9_isNeeded_35 hh0.1 rfl rfl (z_ai z_a0) (Nat.le_of_ble_eq_true rfl) (Nat.le_of_ble_eq_true rfl) ⟨Nat.le_refl _, Nat.le_refl _⟩ ?_
    refine t_X9_toOf hh0 q9 ?_
    show z_Sem mX9_isNeeded (sh.length, 0) 38 [(2, z_i y7), (0, z_r 161), (1, z_i x1)] [z_i (f_X9_toOf w6 x1), z_i (f_X9_fromOf w6 x1), z_r 161] (sh, w6) Q
    obtain ⟨q10, h⟩ := h
    refine z_callV (As := [z_i (f_X9_fromOf w6 x1), z_i (f_X9_toOf w6 x1)]) (rest := []) zmX9_boundOf znX9_boundOf zsX9_boundOf (show vwCl[9]? = some (RX9, TX9, 29) from rfl) zlRX9_113 ⟨Nat.le_of_ble_eq_true rfl, Nat.le_of_ble_eq_true rfl⟩ dX9_isNeeded_38 hh0.1 rfl rfl (z_ai (z_ai z_a0)) (Nat.le_of_ble_eq_true rfl) (Nat.le_of_ble_eq_true rfl) ⟨Nat.le_refl _, Nat.le_refl _⟩ ?_
    refine t_X9_boundOf hh0 q10 ?_
    show z_Sem mX9_isNeeded (sh.length, 0) 41 [(2, z_i y7), (0, z_r 161), (1, z_i x1)] [z_i (f_X9_boundOf w6 (f_X9_fromOf w6 x1) (f_X9_toOf w6 x1))] (sh, w6) Q
    refine z_aload_n 1 dX9_isNeeded_41 rfl rfl ?_
    refine z_iload_n 2 dX9_isNeeded_42 rfl rfl ?_
    obtain ⟨q11, h⟩ := h
    refine z_callV (As := [z_i x1]) (rest := [z_i (f_X9_boundOf w6 (f_X9_fromOf w6 x1) (f_X9_toOf w6 x1))]) zmX9_lengthOf znX9_lengthOf zsX9_lengthOf (show vwCl[9]? = some (RX9, TX9, 29) from rfl) zlRX9_96 ⟨Nat.le_of_ble_eq_true rfl, Nat.le_of_ble_eq_true rfl⟩ dX9_isNeeded_43 hh0.1 rfl rfl (z_ai z_a0) (Nat.le_of_ble_eq_true rfl) (Nat.le_of_ble_eq_true rfl) ⟨Nat.le_refl _, Nat.le_refl _⟩ ?_
    refine t_X9_lengthOf hh0 q11 ?_
    show z_Sem mX9_isNeeded (sh.length, 0) 46 [(2, z_i y7), (0, z_r 161), (1, z_i x1)] [z_i (f_X9_lengthOf w6 x1), z_i (f_X9_boundOf w6 (f_X9_fromOf w6 x1) (f_X9_toOf w6 x1))] (sh, w6) Q
    suffices hJ12 : z_Sem mX9_isNeeded (sh.length, 0) 54 [(0, z_r 161), (1, z_i x1)] [z_i (if (f_X9_boundOf w6 (f_X9_fromOf w6 x1) (f_X9_toOf w6 x1)) ≤ (f_X9_lengthOf w6 x1) then 0 else 1)] (sh, w6) Q by
      refine z_icmp_le (tgt := 53) dX9_isNeeded_46 (by decide) (fun c13 => ?_) (fun c13 => ?_)
      · skip
        refine z_iconst dX9_isNeeded_53 (by decide) ?_
        refine z_sub (L' := [(0, z_r 161), (1, z_i x1)]) [1, 2] rfl ?_
        simp only [if_pos c13] at hJ12
        exact hJ12
      · skip
        refine z_iconst dX9_isNeeded_49 (by decide) ?_
        refine z_goto (tgt := 54) dX9_isNeeded_50 (by decide) ?_
        refine z_sub (L' := [(0, z_r 161), (1, z_i x1)]) [1, 2] rfl ?_
        simp only [if_neg c13] at hJ12
        exact hJ12
    refine z_nam (fun y16 hy16 => ?_)
    replace h := h y16 hy16
    refine z_istore_n (L' := [(3, z_i y16), (0, z_r 161), (1, z_i x1)]) dX9_isNeeded_54 rfl (by decide) rfl ?_
    refine z_aload_n 1 dX9_isNeeded_55 rfl rfl ?_
    refine z_iload_n 2 dX9_isNeeded_56 rfl rfl ?_
    refine z_iconst dX9_isNeeded_57 (by decide) ?_
    refine z_iconst dX9_isNeeded_58 (by decide) ?_
    refine z_callV (As := [z_i x1, z_i 4, z_i 1]) (rest := []) zmX9_puts znX9_puts zsX9_puts (show vwCl[9]? = some (RX9, TX9, 29) from rfl) zlRX9_133 ⟨Nat.le_of_ble_eq_true rfl, Nat.le_of_ble_eq_true rfl⟩ dX9_isNeeded_59 hh0.1 rfl rfl (z_ai (z_ai (z_ai z_a0))) (Nat.le_of_ble_eq_true rfl) (Nat.le_of_ble_eq_true rfl) ⟨Nat.le_refl _, Nat.le_refl _⟩ (z_CVm h ?_)
    intro w17 h
    show z_Sem mX9_isNeeded (sh.length, 0) 62 [(3, z_i y16), (0, z_r 161), (1, z_i x1)] [] (sh, w17) Q
    refine z_aload_n 1 dX9_isNeeded_62 rfl rfl ?_
    refine z_callV (As := []) (rest := []) zmX9_lays znX9_lays zsX9_lays (show vwCl[9]? = some (RX9, TX9, 29) from rfl) zlRX9_126 ⟨Nat.le_of_ble_eq_true rfl, Nat.le_of_ble_eq_true rfl⟩ dX9_isNeeded_63 hh0.1 rfl rfl z_a0 (Nat.le_of_ble_eq_true rfl) (Nat.le_of_ble_eq_true rfl) ⟨Nat.le_refl _, Nat.le_refl _⟩ (z_CIm h ?_)
    intro y19 w18 h
    show z_Sem mX9_isNeeded (sh.length, 0) 66 [(3, z_i y16), (0, z_r 161), (1, z_i x1)] [z_i y19] (sh, w18) Q
    refine z_istore_n (L' := [(2, z_i y19), (3, z_i y16), (0, z_r 161), (1, z_i x1)]) dX9_isNeeded_66 rfl (by decide) rfl ?_
    refine z_iload_n 1 dX9_isNeeded_67 rfl rfl ?_
    obtain ⟨q20, h⟩ := h
    exact z_ret (v := some (z_i y16)) dX9_isNeeded_68 ⟨rfl, Or.inr (Or.inl ⟨rfl, q20⟩)⟩ rfl rfl h
  · replace h := h.1 c4
    refine z_iconst dX9_isNeeded_13 (by decide) ?_
    exact z_ret (v := some (z_i 0)) dX9_isNeeded_14 ⟨rfl, Or.inr (Or.inl ⟨rfl, (by decide)⟩)⟩ rfl rfl h
set_option maxRecDepth 100000 in
theorem t_X9_comes {sh : List z_C} {w : Nat → Int → Int} {Q : Option z_V → z_S → Prop} {x1 : Int} {x2 : Int} {x3 : Int} {x4 : Int} {x5 : Int} (hh0 : z_isMod sh 161) (h : ∀ y1 : Int, y1 = (w 163 2) → z_CV mX9_puts [z_r 161, z_i y1, z_i 0, z_i x1] sh w (fun w2 => z_CV mX9_puts [z_r 161, z_i y1, z_i 1, z_i x2] sh w2 (fun w3 => z_CV mX9_puts [z_r 161, z_i y1, z_i 2, z_i x3] sh w3 (fun w4 => z_CV mX9_puts [z_r 161, z_i y1, z_i 3, z_i x4] sh w4 (fun w5 => z_CV mX9_puts [z_r 161, z_i y1, z_i 4, z_i x5] sh w5 (fun w6 => (z_R ((w6 163 2) + 1)) ∧ ∀ w8 : Nat → Int → Int, w8 = z_W w6 163 2 ((w6 163 2) + 1) → Q (some (z_i y1)) (sh, w8))))))) : z_Sem mX9_comes (sh.length, 0) 0 [(0, z_r 161), (1, z_i x1), (2, z_i x2), (3, z_i x3), (4, z_i x4), (5, z_i x5)] [] (sh, w) Q := by
  refine z_aload_n 0 dX9_comes_0 rfl rfl ?_
  refine z_getR (r := 163) zfRX9_17 dX9_comes_1 hh0.1 rfl ?_
  refine z_iconst dX9_comes_4 (by decide) ?_
  refine z_iald dX9_comes_5 hh0.2.2.1 (by decide) ?_
  refine z_nam (fun y1 hy1 => ?_)
  replace h := h y1 hy1
  refine z_istore (L' := [(6, z_i y1), (0, z_r 161), (1, z_i x1), (2, z_i x2), (3, z_i x3), (4, z_i x4), (5, z_i x5)]) dX9_comes_6 (by decide) rfl ?_
  refine z_aload_n 1 dX9_comes_8 rfl rfl ?_
  refine z_iload 0 dX9_comes_9 rfl ?_
  refine z_iconst dX9_comes_11 (by decide) ?_
  refine z_iload_n 2 dX9_comes_12 rfl rfl ?_
  refine z_callV (As := [z_i y1, z_i 0, z_i x1]) (rest := []) zmX9_puts znX9_puts zsX9_puts (show vwCl[9]? = some (RX9, TX9, 29) from rfl) zlRX9_133 ⟨Nat.le_of_ble_eq_true rfl, Nat.le_of_ble_eq_true rfl⟩ dX9_comes_13 hh0.1 rfl rfl (z_ai (z_ai (z_ai z_a0))) (Nat.le_of_ble_eq_true rfl) (Nat.le_of_ble_eq_true rfl) ⟨Nat.le_refl _, Nat.le_refl _⟩ (z_CVm h ?_)
  intro w2 h
  show z_Sem mX9_comes (sh.length, 0) 16 [(6, z_i y1), (0, z_r 161), (1, z_i x1), (2, z_i x2), (3, z_i x3), (4, z_i x4), (5, z_i x5)] [] (sh, w2) Q
  refine z_aload_n 1 dX9_comes_16 rfl rfl ?_
  refine z_iload 0 dX9_comes_17 rfl ?_
  refine z_iconst dX9_comes_19 (by decide) ?_
  refine z_iload_n 3 dX9_comes_20 rfl rfl ?_
  refine z_callV (As := [z_i y1, z_i 1, z_i x2]) (rest := []) zmX9_puts znX9_puts zsX9_puts (show vwCl[9]? = some (RX9, TX9, 29) from rfl) zlRX9_133 ⟨Nat.le_of_ble_eq_true rfl, Nat.le_of_ble_eq_true rfl⟩ dX9_comes_21 hh0.1 rfl rfl (z_ai (z_ai (z_ai z_a0))) (Nat.le_of_ble_eq_true rfl) (Nat.le_of_ble_eq_true rfl) ⟨Nat.le_refl _, Nat.le_refl _⟩ (z_CVm h ?_)
  intro w3 h
  show z_Sem mX9_comes (sh.length, 0) 24 [(6, z_i y1), (0, z_r 161), (1, z_i x1), (2, z_i x2), (3, z_i x3), (4, z_i x4), (5, z_i x5)] [] (sh, w3) Q
  refine z_aload_n 1 dX9_comes_24 rfl rfl ?_
  refine z_iload 0 dX9_comes_25 rfl ?_
  refine z_iconst dX9_comes_27 (by decide) ?_
  refine z_iload_n 4 dX9_comes_28 rfl rfl ?_
  refine z_callV (As := [z_i y1, z_i 2, z_i x3]) (rest := []) zmX9_puts znX9_puts zsX9_puts (show vwCl[9]? = some (RX9, TX9, 29) from rfl) zlRX9_133 ⟨Nat.le_of_ble_eq_true rfl, Nat.le_of_ble_eq_true rfl⟩ dX9_comes_29 hh0.1 rfl rfl (z_ai (z_ai (z_ai z_a0))) (Nat.le_of_ble_eq_true rfl) (Nat.le_of_ble_eq_true rfl) ⟨Nat.le_refl _, Nat.le_refl _⟩ (z_CVm h ?_)
  intro w4 h
  show z_Sem mX9_comes (sh.length, 0) 32 [(6, z_i y1), (0, z_r 161), (1, z_i x1), (2, z_i x2), (3, z_i x3), (4, z_i x4), (5, z_i x5)] [] (sh, w4) Q
  refine z_aload_n 1 dX9_comes_32 rfl rfl ?_
  refine z_iload 0 dX9_comes_33 rfl ?_
  refine z_iconst dX9_comes_35 (by decide) ?_
  refine z_iload 5 dX9_comes_36 rfl ?_
  refine z_callV (As := [z_i y1, z_i 3, z_i x4]) (rest := []) zmX9_puts znX9_puts zsX9_puts (show vwCl[9]? = some (RX9, TX9, 29) from rfl) zlRX9_133 ⟨Nat.le_of_ble_eq_true rfl, Nat.le_of_ble_eq_true rfl⟩ dX9_comes_38 hh0.1 rfl rfl (z_ai (z_ai (z_ai z_a0))) (Nat.le_of_ble_eq_true rfl) (Nat.le_of_ble_eq_true rfl) ⟨Nat.le_refl _, Nat.le_refl _⟩ (z_CVm h ?_)
  intro w5 h
  show z_Sem mX9_comes (sh.length, 0) 41 [(6, z_i y1), (0, z_r 161), (1, z_i x1), (2, z_i x2), (3, z_i x3), (4, z_i x4), (5, z_i x5)] [] (sh, w5) Q
  refine z_aload_n 1 dX9_comes_41 rfl rfl ?_
  refine z_iload 0 dX9_comes_42 rfl ?_
  refine z_iconst dX9_comes_44 (by decide) ?_
  refine z_iload 6 dX9_comes_45 rfl ?_
  refine z_callV (As := [z_i y1, z_i 4, z_i x5]) (rest := []) zmX9_puts znX9_puts zsX9_puts (show vwCl[9]? = some (RX9, TX9, 29) from rfl) zlRX9_133 ⟨Nat.le_of_ble_eq_true rfl, Nat.le_of_ble_eq_true rfl⟩ dX9_comes_47 hh0.1 rfl rfl (z_ai (z_ai (z_ai z_a0))) (Nat.le_of_ble_eq_true rfl) (Nat.le_of_ble_eq_true rfl) ⟨Nat.le_refl _, Nat.le_refl _⟩ (z_CVm h ?_)
  intro w6 h
  show z_Sem mX9_comes (sh.length, 0) 50 [(6, z_i y1), (0, z_r 161), (1, z_i x1), (2, z_i x2), (3, z_i x3), (4, z_i x4), (5, z_i x5)] [] (sh, w6) Q
  refine z_aload_n 1 dX9_comes_50 rfl rfl ?_
  refine z_getR (r := 163) zfRX9_17 dX9_comes_51 hh0.1 rfl ?_
  refine z_iconst dX9_comes_54 (by decide) ?_
  refine z_dup2 dX9_comes_55 rfl rfl ?_
  refine z_iald dX9_comes_56 hh0.2.2.1 (by decide) ?_
  refine z_iconst dX9_comes_57 (by decide) ?_
  obtain ⟨q7, h⟩ := h
  refine z_iadd dX9_comes_58 q7 ?_
  refine z_iast dX9_comes_59 hh0.2.2.1 (by decide) ?_
  refine z_genw (fun w8 hw8 => ?_)
  replace h := h w8 hw8
  refine z_iload 0 dX9_comes_60 rfl ?_
  exact z_ret (v := some (z_i y1)) dX9_comes_62 ⟨rfl, Or.inl rfl⟩ rfl rfl h
set_option maxRecDepth 100000 in
theorem t_X9_doneIf {sh : List z_C} {w : Nat → Int → Int} {Q : Option z_V → z_S → Prop} {x1 : Int} {x2 : Int} {x3 : Int} {x4 : Int} (hh0 : z_isMod sh 161) (h : z_CI mX9_lays [z_r 161] sh w (fun y2 w1 => ((y2 = 0 → z_CI mX9_fails [z_r 161, z_i (-5)] sh w1 (fun y8 w7 => Q (some (z_i y8)) (sh, w7))) ∧ (¬ y2 = 0 → z_CV mX9_logs [z_r 161, z_i x1, z_i x2, z_i x3] sh w1 (fun w4 => z_CI mX9_done [z_r 161, z_i x4] sh w4 (fun y6 w5 => Q (some (z_i y6)) (sh, w5))))))) : z_Sem mX9_doneIf (sh.length, 0) 0 [(0, z_r 161), (1, z_i x1), (2, z_i x2), (3, z_i x3), (4, z_i x4)] [] (sh, w) Q := by
  refine z_aload_n 0 dX9_doneIf_0 rfl rfl ?_
  refine z_callV (As := []) (rest := []) zmX9_lays znX9_lays zsX9_lays (show vwCl[9]? = some (RX9, TX9, 29) from rfl) zlRX9_126 ⟨Nat.le_of_ble_eq_true rfl, Nat.le_of_ble_eq_true rfl⟩ dX9_doneIf_1 hh0.1 rfl rfl z_a0 (Nat.le_of_ble_eq_true rfl) (Nat.le_of_ble_eq_true rfl) ⟨Nat.le_refl _, Nat.le_refl _⟩ (z_CIm h ?_)
  intro y2 w1 h
  show z_Sem mX9_doneIf (sh.length, 0) 4 [(0, z_r 161), (1, z_i x1), (2, z_i x2), (3, z_i x3), (4, z_i x4)] [z_i y2] (sh, w1) Q
  refine z_if_ne (tgt := 14) dX9_doneIf_4 (by decide) (fun c3 => ?_) (fun c3 => ?_)
  · replace h := h.2 c3
    refine z_aload_n 0 dX9_doneIf_14 rfl rfl ?_
    refine z_iload_n 1 dX9_doneIf_15 rfl rfl ?_
    refine z_iload_n 2 dX9_doneIf_16 rfl rfl ?_
    refine z_iload_n 3 dX9_doneIf_17 rfl rfl ?_
    refine z_callV (As := [z_i x1, z_i x2, z_i x3]) (rest := []) zmX9_logs znX9_logs zsX9_logs (show vwCl[9]? = some (RX9, TX9, 29) from rfl) zlRX9_140 ⟨Nat.le_of_ble_eq_true rfl, Nat.le_of_ble_eq_true rfl⟩ dX9_doneIf_18 hh0.1 rfl rfl (z_ai (z_ai (z_ai z_a0))) (Nat.le_of_ble_eq_true rfl) (Nat.le_of_ble_eq_true rfl) ⟨Nat.le_refl _, Nat.le_refl _⟩ (z_CVm h ?_)
    intro w4 h
    show z_Sem mX9_doneIf (sh.length, 0) 21 [(0, z_r 161), (1, z_i x1), (2, z_i x2), (3, z_i x3), (4, z_i x4)] [] (sh, w4) Q
    refine z_aload_n 0 dX9_doneIf_21 rfl rfl ?_
    refine z_iload 4 dX9_doneIf_22 rfl ?_
    refine z_callV (As := [z_i x4]) (rest := []) zmX9_done znX9_done zsX9_done (show vwCl[9]? = some (RX9, TX9, 29) from rfl) zlRX9_72 ⟨Nat.le_of_ble_eq_true rfl, Nat.le_of_ble_eq_true rfl⟩ dX9_doneIf_24 hh0.1 rfl rfl (z_ai z_a0) (Nat.le_of_ble_eq_true rfl) (Nat.le_of_ble_eq_true rfl) ⟨Nat.le_refl _, Nat.le_refl _⟩ (z_CIm h ?_)
    intro y6 w5 h
    show z_Sem mX9_doneIf (sh.length, 0) 27 [(0, z_r 161), (1, z_i x1), (2, z_i x2), (3, z_i x3), (4, z_i x4)] [z_i y6] (sh, w5) Q
    exact z_ret (v := some (z_i y6)) dX9_doneIf_27 ⟨rfl, Or.inl rfl⟩ rfl rfl h
  · replace h := h.1 c3
    refine z_aload_n 0 dX9_doneIf_7 rfl rfl ?_
    refine z_bipush dX9_doneIf_8 (by decide) (by decide) ?_
    refine z_callV (As := [z_i (-5)]) (rest := []) zmX9_fails znX9_fails zsX9_fails (show vwCl[9]? = some (RX9, TX9, 29) from rfl) zlRX9_137 ⟨Nat.le_of_ble_eq_true rfl, Nat.le_of_ble_eq_true rfl⟩ dX9_doneIf_10 hh0.1 rfl rfl (z_ai z_a0) (Nat.le_of_ble_eq_true rfl) (Nat.le_of_ble_eq_true rfl) ⟨Nat.le_refl _, Nat.le_refl _⟩ (z_CIm h ?_)
    intro y8 w7 h
    show z_Sem mX9_doneIf (sh.length, 0) 13 [(0, z_r 161), (1, z_i x1), (2, z_i x2), (3, z_i x3), (4, z_i x4)] [z_i y8] (sh, w7) Q
    exact z_ret (v := some (z_i y8)) dX9_doneIf_13 ⟨rfl, Or.inl rfl⟩ rfl rfl h
set_option maxRecDepth 100000 in
theorem t_X9_tell {sh : List z_C} {w : Nat → Int → Int} {Q : Option z_V → z_S → Prop} {x1 : Int} {x2 : Int} {x3 : Int} {x4 : Int} (hh0 : z_isMod sh 161) (h : (s_X9_areTwo w x1 x2) ∧ (((f_X9_areTwo w x1 x2) = 0 → Q (some (z_i (-1))) (sh, w)) ∧ (¬ (f_X9_areTwo w x1 x2) = 0 → (((f_X9_isN w x3 x4) = 0 → Q (some (z_i (-1))) (sh, w)) ∧ (¬ (f_X9_isN w x3 x4) = 0 → (((w 163 2) = 24 → Q (some (z_i (-4))) (sh, w)) ∧ (¬ (w 163 2) = 24 → z_CV mX9_begins [z_r 161] sh w (fun w5 => z_CI mX9_comes [z_r 161, z_i x1, z_i x2, z_i x3, z_i x4, z_i 1] sh w5 (fun y7 w6 => z_CI mX9_lays [z_r 161] sh w6 (fun y9 w8 => ((y9 = 0 → z_CI mX9_fails [z_r 161, z_i (-5)] sh w8 (fun y15 w14 => z_CV mX9_logs [z_r 161, z_i 8, z_i x3, z_i x4] sh w14 (fun w16 => z_CI mX9_done [z_r 161, z_i (-5)] sh w16 (fun y18 w17 => Q (some (z_i y18)) (sh, w17))))) ∧ (¬ y9 = 0 → z_CV mX9_logs [z_r 161, z_i 1, z_i y7, z_i x4] sh w8 (fun w11 => z_CI mX9_done [z_r 161, z_i y7] sh w11 (fun y13 w12 => Q (some (z_i y13)) (sh, w12))))))))))))))) : z_Sem mX9_tell (sh.length, 0) 0 [(0, z_r 161), (1, z_i x1), (2, z_i x2), (3, z_i x3), (4, z_i x4)] [] (sh, w) Q := by
  refine z_aload_n 0 dX9_tell_0 rfl rfl ?_
  refine z_iload_n 1 dX9_tell_1 rfl rfl ?_
  refine z_iload_n 2 dX9_tell_2 rfl rfl ?_
  obtain ⟨q1, h⟩ := h
  refine z_callV (As := [z_i x1, z_i x2]) (rest := []) zmX9_areTwo znX9_areTwo zsX9_areTwo (show vwCl[9]? = some (RX9, TX9, 29) from rfl) zlRX9_143 ⟨Nat.le_of_ble_eq_true rfl, Nat.le_of_ble_eq_true rfl⟩ dX9_tell_3 hh0.1 rfl rfl (z_ai (z_ai z_a0)) (Nat.le_of_ble_eq_true rfl) (Nat.le_of_ble_eq_true rfl) ⟨Nat.le_refl _, Nat.le_refl _⟩ ?_
  refine t_X9_areTwo hh0 q1 ?_
  show z_Sem mX9_tell (sh.length, 0) 6 [(0, z_r 161), (1, z_i x1), (2, z_i x2), (3, z_i x3), (4, z_i x4)] [z_i (f_X9_areTwo w x1 x2)] (sh, w) Q
  refine z_if_eq (tgt := 18) dX9_tell_6 (by decide) (fun c2 => ?_) (fun c2 => ?_)
  · replace h := h.1 c2
    refine z_iconst dX9_tell_18 (by decide) ?_
    exact z_ret (v := some (z_i (-1))) dX9_tell_19 ⟨rfl, Or.inl rfl⟩ rfl rfl h
  · replace h := h.2 c2
    refine z_iload_n 3 dX9_tell_9 rfl rfl ?_
    refine z_iload 4 dX9_tell_10 rfl ?_
    refine z_callS (As := [z_i x3, z_i x4]) (rest := []) zmX9_isN ztX9_isN zlRX9_147 ⟨Nat.le_of_ble_eq_true rfl, Nat.le_of_ble_eq_true rfl⟩ dX9_tell_12 rfl rfl (z_ai (z_ai z_a0)) (Nat.le_of_ble_eq_true rfl) (Nat.le_of_ble_eq_true rfl) ⟨Nat.le_refl _, Nat.le_refl _⟩ ?_
    refine t_X9_isN  ?_
    show z_Sem mX9_tell (sh.length, 0) 15 [(0, z_r 161), (1, z_i x1), (2, z_i x2), (3, z_i x3), (4, z_i x4)] [z_i (f_X9_isN w x3 x4)] (sh, w) Q
    refine z_if_ne (tgt := 20) dX9_tell_15 (by decide) (fun c3 => ?_) (fun c3 => ?_)
    · replace h := h.2 c3
      refine z_aload_n 0 dX9_tell_20 rfl rfl ?_
      refine z_getR (r := 163) zfRX9_17 dX9_tell_21 hh0.1 rfl ?_
      refine z_iconst dX9_tell_24 (by decide) ?_
      refine z_iald dX9_tell_25 hh0.2.2.1 (by decide) ?_
      refine z_bipush dX9_tell_26 (by decide) (by decide) ?_
      refine z_icmp_ne (tgt := 34) dX9_tell_28 (by decide) (fun c4 => ?_) (fun c4 => ?_)
      · replace h := h.2 c4
        refine z_aload_n 0 dX9_tell_34 rfl rfl ?_
        refine z_callV (As := []) (rest := []) zmX9_begins znX9_begins zsX9_begins (show vwCl[9]? = some (RX9, TX9, 29) from rfl) zlRX9_69 ⟨Nat.le_of_ble_eq_true rfl, Nat.le_of_ble_eq_true rfl⟩ dX9_tell_35 hh0.1 rfl rfl z_a0 (Nat.le_of_ble_eq_true rfl) (Nat.le_of_ble_eq_true rfl) ⟨Nat.le_refl _, Nat.le_refl _⟩ (z_CVm h ?_)
        intro w5 h
        show z_Sem mX9_tell (sh.length, 0) 38 [(0, z_r 161), (1, z_i x1), (2, z_i x2), (3, z_i x3), (4, z_i x4)] [] (sh, w5) Q
        refine z_aload_n 0 dX9_tell_38 rfl rfl ?_
        refine z_iload_n 1 dX9_tell_39 rfl rfl ?_
        refine z_iload_n 2 dX9_tell_40 rfl rfl ?_
        refine z_iload_n 3 dX9_tell_41 rfl rfl ?_
        refine z_iload 4 dX9_tell_42 rfl ?_
        refine z_iconst dX9_tell_44 (by decide) ?_
        refine z_callV (As := [z_i x1, z_i x2, z_i x3, z_i x4, z_i 1]) (rest := []) zmX9_comes znX9_comes zsX9_comes (show vwCl[9]? = some (RX9, TX9, 29) from rfl) zlRX9_150 ⟨Nat.le_of_ble_eq_true rfl, Nat.le_of_ble_eq_true rfl⟩ dX9_tell_45 hh0.1 rfl rfl (z_ai (z_ai (z_ai (z_ai (z_ai z_a0))))) (Nat.le_of_ble_eq_true rfl) (Nat.le_of_ble_eq_true rfl) ⟨Nat.le_refl _, Nat.le_refl _⟩ (z_CIm h ?_)
        intro y7 w6 h
        show z_Sem mX9_tell (sh.length, 0) 48 [(0, z_r 161), (1, z_i x1), (2, z_i x2), (3, z_i x3), (4, z_i x4)] [z_i y7] (sh, w6) Q
        refine z_istore (L' := [(5, z_i y7), (0, z_r 161), (1, z_i x1), (2, z_i x2), (3, z_i x3), (4, z_i x4)]) dX9_tell_48 (by decide) rfl ?_
        refine z_aload_n 1 dX9_tell_50 rfl rfl ?_
        refine z_callV (As := []) (rest := []) zmX9_lays znX9_lays zsX9_lays (show vwCl[9]? = some (RX9, TX9, 29) from rfl) zlRX9_126 ⟨Nat.le_of_ble_eq_true rfl, Nat.le_of_ble_eq_true rfl⟩ dX9_tell_51 hh0.1 rfl rfl z_a0 (Nat.le_of_ble_eq_true rfl) (Nat.le_of_ble_eq_true rfl) ⟨Nat.le_refl _, Nat.le_refl _⟩ (z_CIm h ?_)
        intro y9 w8 h
        show z_Sem mX9_tell (sh.length, 0) 54 [(5, z_i y7), (0, z_r 161), (1, z_i x1), (2, z_i x2), (3, z_i x3), (4, z_i x4)] [z_i y9] (sh, w8) Q
        refine z_if_ne (tgt := 81) dX9_tell_54 (by decide) (fun c10 => ?_) (fun c10 => ?_)
        · replace h := h.2 c10
          refine z_aload_n 1 dX9_tell_81 rfl rfl ?_
          refine z_iconst dX9_tell_82 (by decide) ?_
          refine z_iload 0 dX9_tell_83 rfl ?_
          refine z_iload 5 dX9_tell_85 rfl ?_
          refine z_callV (As := [z_i 1, z_i y7, z_i x4]) (rest := []) zmX9_logs znX9_logs zsX9_logs (show vwCl[9]? = some (RX9, TX9, 29) from rfl) zlRX9_140 ⟨Nat.le_of_ble_eq_true rfl, Nat.le_of_ble_eq_true rfl⟩ dX9_tell_87 hh0.1 rfl rfl (z_ai (z_ai (z_ai z_a0))) (Nat.le_of_ble_eq_true rfl) (Nat.le_of_ble_eq_true rfl) ⟨Nat.le_refl _, Nat.le_refl _⟩ (z_CVm h ?_)
          intro w11 h
          show z_Sem mX9_tell (sh.length, 0) 90 [(5, z_i y7), (0, z_r 161), (1, z_i x1), (2, z_i x2), (3, z_i x3), (4, z_i x4)] [] (sh, w11) Q
          refine z_aload_n 1 dX9_tell_90 rfl rfl ?_
          refine z_iload 0 dX9_tell_91 rfl ?_
          refine z_callV (As := [z_i y7]) (rest := []) zmX9_done znX9_done zsX9_done (show vwCl[9]? = some (RX9, TX9, 29) from rfl) zlRX9_72 ⟨Nat.le_of_ble_eq_true rfl, Nat.le_of_ble_eq_true rfl⟩ dX9_tell_93 hh0.1 rfl rfl (z_ai z_a0) (Nat.le_of_ble_eq_true rfl) (Nat.le_of_ble_eq_true rfl) ⟨Nat.le_refl _, Nat.le_refl _⟩ (z_CIm h ?_)
          intro y13 w12 h
          show z_Sem mX9_tell (sh.length, 0) 96 [(5, z_i y7), (0, z_r 161), (1, z_i x1), (2, z_i x2), (3, z_i x3), (4, z_i x4)] [z_i y13] (sh, w12) Q
          exact z_ret (v := some (z_i y13)) dX9_tell_96 ⟨rfl, Or.inl rfl⟩ rfl rfl h
        · replace h := h.1 c10
          refine z_aload_n 1 dX9_tell_57 rfl rfl ?_
          refine z_bipush dX9_tell_58 (by decide) (by decide) ?_
          refine z_callV (As := [z_i (-5)]) (rest := []) zmX9_fails znX9_fails zsX9_fails (show vwCl[9]? = some (RX9, TX9, 29) from rfl) zlRX9_137 ⟨Nat.le_of_ble_eq_true rfl, Nat.le_of_ble_eq_true rfl⟩ dX9_tell_60 hh0.1 rfl rfl (z_ai z_a0) (Nat.le_of_ble_eq_true rfl) (Nat.le_of_ble_eq_true rfl) ⟨Nat.le_refl _, Nat.le_refl _⟩ (z_CIm h ?_)
          intro y15 w14 h
          show z_Sem mX9_tell (sh.length, 0) 63 [(5, z_i y7), (0, z_r 161), (1, z_i x1), (2, z_i x2), (3, z_i x3), (4, z_i x4)] [z_i y15] (sh, w14) Q
          refine z_istore (L' := [(6, z_i y15), (5, z_i y7), (0, z_r 161), (1, z_i x1), (2, z_i x2), (3, z_i x3), (4, z_i x4)]) dX9_tell_63 (by decide) rfl ?_
          refine z_aload_n 2 dX9_tell_65 rfl rfl ?_
          refine z_bipush dX9_tell_66 (by decide) (by decide) ?_
          refine z_iload_n 5 dX9_tell_68 rfl rfl ?_
          refine z_iload 6 dX9_tell_69 rfl ?_
          refine z_callV (As := [z_i 8, z_i x3, z_i x4]) (rest := []) zmX9_logs znX9_logs zsX9_logs (show vwCl[9]? = some (RX9, TX9, 29) from rfl) zlRX9_140 ⟨Nat.le_of_ble_eq_true rfl, Nat.le_of_ble_eq_true rfl⟩ dX9_tell_71 hh0.1 rfl rfl (z_ai (z_ai (z_ai z_a0))) (Nat.le_of_ble_eq_true rfl) (Nat.le_of_ble_eq_true rfl) ⟨Nat.le_refl _, Nat.le_refl _⟩ (z_CVm h ?_)
          intro w16 h
          show z_Sem mX9_tell (sh.length, 0) 74 [(6, z_i y15), (5, z_i y7), (0, z_r 161), (1, z_i x1), (2, z_i x2), (3, z_i x3), (4, z_i x4)] [] (sh, w16) Q
          refine z_aload_n 2 dX9_tell_74 rfl rfl ?_
          refine z_bipush dX9_tell_75 (by decide) (by decide) ?_
          refine z_callV (As := [z_i (-5)]) (rest := []) zmX9_done znX9_done zsX9_done (show vwCl[9]? = some (RX9, TX9, 29) from rfl) zlRX9_72 ⟨Nat.le_of_ble_eq_true rfl, Nat.le_of_ble_eq_true rfl⟩ dX9_tell_77 hh0.1 rfl rfl (z_ai z_a0) (Nat.le_of_ble_eq_true rfl) (Nat.le_of_ble_eq_true rfl) ⟨Nat.le_refl _, Nat.le_refl _⟩ (z_CIm h ?_)
          intro y18 w17 h
          show z_Sem mX9_tell (sh.length, 0) 80 [(6, z_i y15), (5, z_i y7), (0, z_r 161), (1, z_i x1), (2, z_i x2), (3, z_i x3), (4, z_i x4)] [z_i y18] (sh, w17) Q
          exact z_ret (v := some (z_i y18)) dX9_tell_80 ⟨rfl, Or.inl rfl⟩ rfl rfl h
      · replace h := h.1 c4
        refine z_bipush dX9_tell_31 (by decide) (by decide) ?_
        exact z_ret (v := some (z_i (-4))) dX9_tell_33 ⟨rfl, Or.inl rfl⟩ rfl rfl h
    · replace h := h.1 c3
      refine z_iconst dX9_tell_18 (by decide) ?_
      exact z_ret (v := some (z_i (-1))) dX9_tell_19 ⟨rfl, Or.inl rfl⟩ rfl rfl h
set_option maxRecDepth 100000 in
theorem t_X9_drops {sh : List z_C} {w : Nat → Int → Int} {Q : Option z_V → z_S → Prop} {x1 : Int} (hh0 : z_isMod sh 161) (h : z_Sem mX9_drops (sh.length, 0) 2 [(0, z_r 161), (2, z_i x1)] [] (sh, w) Q) : z_Sem mX9_drops (sh.length, 0) 0 [(0, z_r 161), (1, z_i x1)] [] (sh, w) Q := by
  refine z_iload_n 1 dX9_drops_0 rfl rfl ?_
  refine z_istore_n (L' := [(2, z_i x1), (0, z_r 161), (1, z_i x1)]) dX9_drops_1 rfl (by decide) rfl ?_
  refine z_sub (L' := [(0, z_r 161), (2, z_i x1)]) [1, 0] rfl ?_
  exact h
set_option maxRecDepth 100000 in
theorem t_X9_drops_2 {sh : List z_C} {w : Nat → Int → Int} {Q : Option z_V → z_S → Prop} {x2 : Int} (hh0 : z_isMod sh 161) (h : (z_R (x2 + 1)) ∧ (((w 163 2) ≤ (x2 + 1) → (z_R ((w 163 2) - 1)) ∧ ∀ w4 : Nat → Int → Int, w4 = z_W w 163 2 ((w 163 2) - 1) → Q none (sh, w4)) ∧ (¬ (w 163 2) ≤ (x2 + 1) → z_Sem mX9_drops (sh.length, 0) 16 [(0, z_r 161), (2, z_i x2), (3, z_i 0)] [] (sh, w) Q))) : z_Sem mX9_drops (sh.length, 0) 2 [(0, z_r 161), (2, z_i x2)] [] (sh, w) Q := by
  refine z_iload_n 1 dX9_drops_2 rfl rfl ?_
  refine z_iconst dX9_drops_3 (by decide) ?_
  obtain ⟨q1, h⟩ := h
  refine z_iadd dX9_drops_4 q1 ?_
  refine z_aload_n 0 dX9_drops_5 rfl rfl ?_
  refine z_getR (r := 163) zfRX9_17 dX9_drops_6 hh0.1 rfl ?_
  refine z_iconst dX9_drops_9 (by decide) ?_
  refine z_iald dX9_drops_10 hh0.2.2.1 (by decide) ?_
  refine z_icmp_ge (tgt := 47) dX9_drops_11 (by decide) (fun c2 => ?_) (fun c2 => ?_)
  · replace h := h.1 c2
    refine z_aload_n 0 dX9_drops_47 rfl rfl ?_
    refine z_getR (r := 163) zfRX9_17 dX9_drops_48 hh0.1 rfl ?_
    refine z_iconst dX9_drops_51 (by decide) ?_
    refine z_dup2 dX9_drops_52 rfl rfl ?_
    refine z_iald dX9_drops_53 hh0.2.2.1 (by decide) ?_
    refine z_iconst dX9_drops_54 (by decide) ?_
    obtain ⟨q3, h⟩ := h
    refine z_isub dX9_drops_55 q3 ?_
    refine z_iast dX9_drops_56 hh0.2.2.1 (by decide) ?_
    refine z_genw (fun w4 hw4 => ?_)
    replace h := h w4 hw4
    exact z_ret (v := none) dX9_drops_57 ⟨rfl, rfl⟩ rfl rfl h
  · replace h := h.2 c2
    refine z_iconst dX9_drops_14 (by decide) ?_
    refine z_istore_n (L' := [(3, z_i 0), (0, z_r 161), (2, z_i x2)]) dX9_drops_15 rfl (by decide) rfl ?_
    refine z_sub (L' := [(0, z_r 161), (2, z_i x2), (3, z_i 0)]) [1, 2, 0] rfl ?_
    exact h
set_option maxRecDepth 100000 in
theorem t_X9_drops_16 {sh : List z_C} {w : Nat → Int → Int} {Q : Option z_V → z_S → Prop} {x2 : Int} {x3 : Int} (hh0 : z_isMod sh 161) (h : ((5 ≤ x3 → (z_R (x2 + 1)) ∧ z_Sem mX9_drops (sh.length, 0) 2 [(0, z_r 161), (2, z_i (x2 + 1))] [] (sh, w) Q) ∧ (¬ 5 ≤ x3 → (z_R (x2 + 1)) ∧ (s_X9_of w (x2 + 1) x3) ∧ z_CV mX9_puts [z_r 161, z_i x2, z_i x3, z_i (f_X9_of w (x2 + 1) x3)] sh w (fun w5 => (z_R (x3 + 1)) ∧ z_Sem mX9_drops (sh.length, 0) 16 [(0, z_r 161), (2, z_i x2), (3, z_i (x3 + 1))] [] (sh, w5) Q)))) : z_Sem mX9_drops (sh.length, 0) 16 [(0, z_r 161), (2, z_i x2), (3, z_i x3)] [] (sh, w) Q := by
  refine z_iload_n 2 dX9_drops_16 rfl rfl ?_
  refine z_iconst dX9_drops_17 (by decide) ?_
  refine z_icmp_ge (tgt := 41) dX9_drops_18 (by decide) (fun c1 => ?_) (fun c1 => ?_)
  · replace h := h.1 c1
    obtain ⟨q2, h⟩ := h
    refine z_iinc (L' := [(2, z_i (x2 + 1)), (0, z_r 161), (3, z_i x3)]) 1 dX9_drops_41 rfl (by decide) rfl q2 ?_
    refine z_goto (tgt := 2) dX9_drops_44 (by decide) ?_
    refine z_sub (L' := [(0, z_r 161), (2, z_i (x2 + 1))]) [1, 0] rfl ?_
    exact h
  · replace h := h.2 c1
    refine z_aload_n 0 dX9_drops_21 rfl rfl ?_
    refine z_iload_n 1 dX9_drops_22 rfl rfl ?_
    refine z_iload_n 2 dX9_drops_23 rfl rfl ?_
    refine z_aload_n 0 dX9_drops_24 rfl rfl ?_
    refine z_iload_n 1 dX9_drops_25 rfl rfl ?_
    refine z_iconst dX9_drops_26 (by decide) ?_
    obtain ⟨q3, h⟩ := h
    refine z_iadd dX9_drops_27 q3 ?_
    refine z_iload_n 2 dX9_drops_28 rfl rfl ?_
    obtain ⟨q4, h⟩ := h
    refine z_callV (As := [z_i (x2 + 1), z_i x3]) (rest := [z_i x3, z_i x2, z_r 161]) zmX9_of znX9_of zsX9_of (show vwCl[9]? = some (RX9, TX9, 29) from rfl) zlRX9_76 ⟨Nat.le_of_ble_eq_true rfl, Nat.le_of_ble_eq_true rfl⟩ dX9_drops_29 hh0.1 rfl rfl (z_ai (z_ai z_a0)) (Nat.le_of_ble_eq_true rfl) (Nat.le_of_ble_eq_true rfl) ⟨Nat.le_refl _, Nat.le_refl _⟩ ?_
    refine t_X9_of hh0 q4 ?_
    show z_Sem mX9_drops (sh.length, 0) 32 [(0, z_r 161), (2, z_i x2), (3, z_i x3)] [z_i (f_X9_of w (x2 + 1) x3), z_i x3, z_i x2, z_r 161] (sh, w) Q
    refine z_callV (As := [z_i x2, z_i x3, z_i (f_X9_of w (x2 + 1) x3)]) (rest := []) zmX9_puts znX9_puts zsX9_puts (show vwCl[9]? = some (RX9, TX9, 29) from rfl) zlRX9_133 ⟨Nat.le_of_ble_eq_true rfl, Nat.le_of_ble_eq_true rfl⟩ dX9_drops_32 hh0.1 rfl rfl (z_ai (z_ai (z_ai z_a0))) (Nat.le_of_ble_eq_true rfl) (Nat.le_of_ble_eq_true rfl) ⟨Nat.le_refl _, Nat.le_refl _⟩ (z_CVm h ?_)
    intro w5 h
    show z_Sem mX9_drops (sh.length, 0) 35 [(0, z_r 161), (2, z_i x2), (3, z_i x3)] [] (sh, w5) Q
    obtain ⟨q6, h⟩ := h
    refine z_iinc (L' := [(3, z_i (x3 + 1)), (0, z_r 161), (2, z_i x2)]) 2 dX9_drops_35 rfl (by decide) rfl q6 ?_
    refine z_goto (tgt := 16) dX9_drops_38 (by decide) ?_
    refine z_sub (L' := [(0, z_r 161), (2, z_i x2), (3, z_i (x3 + 1))]) [1, 2, 0] rfl ?_
    exact h
set_option maxRecDepth 100000 in
theorem t_X9_drop {sh : List z_C} {w : Nat → Int → Int} {Q : Option z_V → z_S → Prop} {x1 : Int} (hh0 : z_isMod sh 161) (h : (s_X9_isGap w x1) ∧ (((f_X9_isGap w x1) = 0 → Q (some (z_i (-1))) (sh, w)) ∧ (¬ (f_X9_isGap w x1) = 0 → z_CV mX9_begins [z_r 161] sh w (fun w3 => (s_X9_of w3 x1 3) ∧ z_CV mX9_logs [z_r 161, z_i 2, z_i x1, z_i (f_X9_of w3 x1 3)] sh w3 (fun w5 => z_CV mX9_drops [z_r 161, z_i x1] sh w5 (fun w6 => z_CI mX9_done [z_r 161, z_i (w6 163 2)] sh w6 (fun y8 w7 => Q (some (z_i y8)) (sh, w7)))))))) : z_Sem mX9_drop (sh.length, 0) 0 [(0, z_r 161), (1, z_i x1)] [] (sh, w) Q := by
  refine z_aload_n 0 dX9_drop_0 rfl rfl ?_
  refine z_iload_n 1 dX9_drop_1 rfl rfl ?_
  obtain ⟨q1, h⟩ := h
  refine z_callV (As := [z_i x1]) (rest := []) zmX9_isGap znX9_isGap zsX9_isGap (show vwCl[9]? = some (RX9, TX9, 29) from rfl) zlRX9_154 ⟨Nat.le_of_ble_eq_true rfl, Nat.le_of_ble_eq_true rfl⟩ dX9_drop_2 hh0.1 rfl rfl (z_ai z_a0) (Nat.le_of_ble_eq_true rfl) (Nat.le_of_ble_eq_true rfl) ⟨Nat.le_refl _, Nat.le_refl _⟩ ?_
  refine t_X9_isGap hh0 q1 ?_
  show z_Sem mX9_drop (sh.length, 0) 5 [(0, z_r 161), (1, z_i x1)] [z_i (f_X9_isGap w x1)] (sh, w) Q
  refine z_if_ne (tgt := 10) dX9_drop_5 (by decide) (fun c2 => ?_) (fun c2 => ?_)
  · replace h := h.2 c2
    refine z_aload_n 0 dX9_drop_10 rfl rfl ?_
    refine z_callV (As := []) (rest := []) zmX9_begins znX9_begins zsX9_begins (show vwCl[9]? = some (RX9, TX9, 29) from rfl) zlRX9_69 ⟨Nat.le_of_ble_eq_true rfl, Nat.le_of_ble_eq_true rfl⟩ dX9_drop_11 hh0.1 rfl rfl z_a0 (Nat.le_of_ble_eq_true rfl) (Nat.le_of_ble_eq_true rfl) ⟨Nat.le_refl _, Nat.le_refl _⟩ (z_CVm h ?_)
    intro w3 h
    show z_Sem mX9_drop (sh.length, 0) 14 [(0, z_r 161), (1, z_i x1)] [] (sh, w3) Q
    refine z_aload_n 0 dX9_drop_14 rfl rfl ?_
    refine z_iconst dX9_drop_15 (by decide) ?_
    refine z_iload_n 1 dX9_drop_16 rfl rfl ?_
    refine z_aload_n 0 dX9_drop_17 rfl rfl ?_
    refine z_iload_n 1 dX9_drop_18 rfl rfl ?_
    refine z_iconst dX9_drop_19 (by decide) ?_
    obtain ⟨q4, h⟩ := h
    refine z_callV (As := [z_i x1, z_i 3]) (rest := [z_i x1, z_i 2, z_r 161]) zmX9_of znX9_of zsX9_of (show vwCl[9]? = some (RX9, TX9, 29) from rfl) zlRX9_76 ⟨Nat.le_of_ble_eq_true rfl, Nat.le_of_ble_eq_true rfl⟩ dX9_drop_20 hh0.1 rfl rfl (z_ai (z_ai z_a0)) (Nat.le_of_ble_eq_true rfl) (Nat.le_of_ble_eq_true rfl) ⟨Nat.le_refl _, Nat.le_refl _⟩ ?_
    refine t_X9_of hh0 q4 ?_
    show z_Sem mX9_drop (sh.length, 0) 23 [(0, z_r 161), (1, z_i x1)] [z_i (f_X9_of w3 x1 3), z_i x1, z_i 2, z_r 161] (sh, w3) Q
    refine z_callV (As := [z_i 2, z_i x1, z_i (f_X9_of w3 x1 3)]) (rest := []) zmX9_logs znX9_logs zsX9_logs (show vwCl[9]? = some (RX9, TX9, 29) from rfl) zlRX9_140 ⟨Nat.le_of_ble_eq_true rfl, Nat.le_of_ble_eq_true rfl⟩ dX9_drop_23 hh0.1 rfl rfl (z_ai (z_ai (z_ai z_a0))) (Nat.le_of_ble_eq_true rfl) (Nat.le_of_ble_eq_true rfl) ⟨Nat.le_refl _, Nat.le_refl _⟩ (z_CVm h ?_)
    intro w5 h
    show z_Sem mX9_drop (sh.length, 0) 26 [(0, z_r 161), (1, z_i x1)] [] (sh, w5) Q
    refine z_aload_n 0 dX9_drop_26 rfl rfl ?_
    refine z_iload_n 1 dX9_drop_27 rfl rfl ?_
    refine z_callV (As := [z_i x1]) (rest := []) zmX9_drops znX9_drops zsX9_drops (show vwCl[9]? = some (RX9, TX9, 29) from rfl) zlRX9_157 ⟨Nat.le_of_ble_eq_true rfl, Nat.le_of_ble_eq_true rfl⟩ dX9_drop_28 hh0.1 rfl rfl (z_ai z_a0) (Nat.le_of_ble_eq_true rfl) (Nat.le_of_ble_eq_true rfl) ⟨Nat.le_refl _, Nat.le_refl _⟩ (z_CVm h ?_)
    intro w6 h
    show z_Sem mX9_drop (sh.length, 0) 31 [(0, z_r 161), (1, z_i x1)] [] (sh, w6) Q
    refine z_aload_n 0 dX9_drop_31 rfl rfl ?_
    refine z_aload_n 0 dX9_drop_32 rfl rfl ?_
    refine z_getR (r := 163) zfRX9_17 dX9_drop_33 hh0.1 rfl ?_
    refine z_iconst dX9_drop_36 (by decide) ?_
    refine z_iald dX9_drop_37 hh0.2.2.1 (by decide) ?_
    refine z_callV (As := [z_i (w6 163 2)]) (rest := []) zmX9_done znX9_done zsX9_done (show vwCl[9]? = some (RX9, TX9, 29) from rfl) zlRX9_72 ⟨Nat.le_of_ble_eq_true rfl, Nat.le_of_ble_eq_true rfl⟩ dX9_drop_38 hh0.1 rfl rfl (z_ai z_a0) (Nat.le_of_ble_eq_true rfl) (Nat.le_of_ble_eq_true rfl) ⟨Nat.le_refl _, Nat.le_refl _⟩ (z_CIm h ?_)
    intro y8 w7 h
    show z_Sem mX9_drop (sh.length, 0) 41 [(0, z_r 161), (1, z_i x1)] [z_i y8] (sh, w7) Q
    exact z_ret (v := some (z_i y8)) dX9_drop_41 ⟨rfl, Or.inl rfl⟩ rfl rfl h
  · replace h := h.1 c2
    refine z_iconst dX9_drop_8 (by decide) ?_
    exact z_ret (v := some (z_i (-1))) dX9_drop_9 ⟨rfl, Or.inl rfl⟩ rfl rfl h
set_option maxRecDepth 100000 in
theorem t_X9_set {sh : List z_C} {w : Nat → Int → Int} {Q : Option z_V → z_S → Prop} {x1 : Int} {x2 : Int} (hh0 : z_isMod sh 161) (h : (s_X9_isGap w x1) ∧ (((f_X9_isGap w x1) = 0 → Q (some (z_i (-1))) (sh, w)) ∧ (¬ (f_X9_isGap w x1) = 0 → (((f_X9_in w x2 0 999) = 0 → Q (some (z_i (-1))) (sh, w)) ∧ (¬ (f_X9_in w x2 0 999) = 0 → (s_X9_of w x1 3) ∧ ∀ y5 : Int, y5 = (f_X9_of w x1 3) → ((y5 = x2 → Q (some (z_i (-2))) (sh, w)) ∧ (¬ y5 = x2 → z_CV mX9_begins [z_r 161] sh w (fun w7 => z_CV mX9_puts [z_r 161, z_i x1, z_i 3, z_i x2] sh w7 (fun w8 => z_CI mX9_doneIf [z_r 161, z_i 3, z_i x1, z_i y5, z_i y5] sh w8 (fun y10 w9 => Q (some (z_i y10)) (sh, w9))))))))))) : z_Sem mX9_set (sh.length, 0) 0 [(0, z_r 161), (1, z_i x1), (2, z_i x2)] [] (sh, w) Q := by
  refine z_aload_n 0 dX9_set_0 rfl rfl ?_
  refine z_iload_n 1 dX9_set_1 rfl rfl ?_
  obtain ⟨q1, h⟩ := h
  refine z_callV (As := [z_i x1]) (rest := []) zmX9_isGap znX9_isGap zsX9_isGap (show vwCl[9]? = some (RX9, TX9, 29) from rfl) zlRX9_154 ⟨Nat.le_of_ble_eq_true rfl, Nat.le_of_ble_eq_true rfl⟩ dX9_set_2 hh0.1 rfl rfl (z_ai z_a0) (Nat.le_of_ble_eq_true rfl) (Nat.le_of_ble_eq_true rfl) ⟨Nat.le_refl _, Nat.le_refl _⟩ ?_
  refine t_X9_isGap hh0 q1 ?_
  show z_Sem mX9_set (sh.length, 0) 5 [(0, z_r 161), (1, z_i x1), (2, z_i x2)] [z_i (f_X9_isGap w x1)] (sh, w) Q
  refine z_if_eq (tgt := 19) dX9_set_5 (by decide) (fun c2 => ?_) (fun c2 => ?_)
  · replace h := h.1 c2
    refine z_iconst dX9_set_19 (by decide) ?_
    exact z_ret (v := some (z_i (-1))) dX9_set_20 ⟨rfl, Or.inl rfl⟩ rfl rfl h
  · replace h := h.2 c2
    refine z_iload_n 2 dX9_set_8 rfl rfl ?_
    refine z_iconst dX9_set_9 (by decide) ?_
    refine z_sipush dX9_set_10 (by decide) (by decide) ?_
    refine z_callS (As := [z_i x2, z_i 0, z_i 999]) (rest := []) zmX9_in ztX9_in zlRX9_65 ⟨Nat.le_of_ble_eq_true rfl, Nat.le_of_ble_eq_true rfl⟩ dX9_set_13 rfl rfl (z_ai (z_ai (z_ai z_a0))) (Nat.le_of_ble_eq_true rfl) (Nat.le_of_ble_eq_true rfl) ⟨Nat.le_refl _, Nat.le_refl _⟩ ?_
    refine t_X9_in  ?_
    show z_Sem mX9_set (sh.length, 0) 16 [(0, z_r 161), (1, z_i x1), (2, z_i x2)] [z_i (f_X9_in w x2 0 999)] (sh, w) Q
    refine z_if_ne (tgt := 21) dX9_set_16 (by decide) (fun c3 => ?_) (fun c3 => ?_)
    · replace h := h.2 c3
      refine z_aload_n 0 dX9_set_21 rfl rfl ?_
      refine z_iload_n 1 dX9_set_22 rfl rfl ?_
      refine z_iconst dX9_set_23 (by decide) ?_
      obtain ⟨q4, h⟩ := h
      refine z_callV (As := [z_i x1, z_i 3]) (rest := []) zmX9_of znX9_of zsX9_of (show vwCl[9]? = some (RX9, TX9, 29) from rfl) zlRX9_76 ⟨Nat.le_of_ble_eq_true rfl, Nat.le_of_ble_eq_true rfl⟩ dX9_set_24 hh0.1 rfl rfl (z_ai (z_ai z_a0)) (Nat.le_of_ble_eq_true rfl) (Nat.le_of_ble_eq_true rfl) ⟨Nat.le_refl _, Nat.le_refl _⟩ ?_
      refine t_X9_of hh0 q4 ?_
      show z_Sem mX9_set (sh.length, 0) 27 [(0, z_r 161), (1, z_i x1), (2, z_i x2)] [z_i (f_X9_of w x1 3)] (sh, w) Q
      refine z_nam (fun y5 hy5 => ?_)
      replace h := h y5 hy5
      refine z_istore_n (L' := [(3, z_i y5), (0, z_r 161), (1, z_i x1), (2, z_i x2)]) dX9_set_27 rfl (by decide) rfl ?_
      refine z_iload_n 0 dX9_set_28 rfl rfl ?_
      refine z_iload_n 3 dX9_set_29 rfl rfl ?_
      refine z_icmp_ne (tgt := 36) dX9_set_30 (by decide) (fun c6 => ?_) (fun c6 => ?_)
      · replace h := h.2 c6
        refine z_aload_n 1 dX9_set_36 rfl rfl ?_
        refine z_callV (As := []) (rest := []) zmX9_begins znX9_begins zsX9_begins (show vwCl[9]? = some (RX9, TX9, 29) from rfl) zlRX9_69 ⟨Nat.le_of_ble_eq_true rfl, Nat.le_of_ble_eq_true rfl⟩ dX9_set_37 hh0.1 rfl rfl z_a0 (Nat.le_of_ble_eq_true rfl) (Nat.le_of_ble_eq_true rfl) ⟨Nat.le_refl _, Nat.le_refl _⟩ (z_CVm h ?_)
        intro w7 h
        show z_Sem mX9_set (sh.length, 0) 40 [(3, z_i y5), (0, z_r 161), (1, z_i x1), (2, z_i x2)] [] (sh, w7) Q
        refine z_aload_n 1 dX9_set_40 rfl rfl ?_
        refine z_iload_n 2 dX9_set_41 rfl rfl ?_
        refine z_iconst dX9_set_42 (by decide) ?_
        refine z_iload_n 3 dX9_set_43 rfl rfl ?_
        refine z_callV (As := [z_i x1, z_i 3, z_i x2]) (rest := []) zmX9_puts znX9_puts zsX9_puts (show vwCl[9]? = some (RX9, TX9, 29) from rfl) zlRX9_133 ⟨Nat.le_of_ble_eq_true rfl, Nat.le_of_ble_eq_true rfl⟩ dX9_set_44 hh0.1 rfl rfl (z_ai (z_ai (z_ai z_a0))) (Nat.le_of_ble_eq_true rfl) (Nat.le_of_ble_eq_true rfl) ⟨Nat.le_refl _, Nat.le_refl _⟩ (z_CVm h ?_)
        intro w8 h
        show z_Sem mX9_set (sh.length, 0) 47 [(3, z_i y5), (0, z_r 161), (1, z_i x1), (2, z_i x2)] [] (sh, w8) Q
        refine z_aload_n 1 dX9_set_47 rfl rfl ?_
        refine z_iconst dX9_set_48 (by decide) ?_
        refine z_iload_n 2 dX9_set_49 rfl rfl ?_
        refine z_iload_n 0 dX9_set_50 rfl rfl ?_
        refine z_iload_n 0 dX9_set_51 rfl rfl ?_
        refine z_callV (As := [z_i 3, z_i x1, z_i y5, z_i y5]) (rest := []) zmX9_doneIf znX9_doneIf zsX9_doneIf (show vwCl[9]? = some (RX9, TX9, 29) from rfl) zlRX9_161 ⟨Nat.le_of_ble_eq_true rfl, Nat.le_of_ble_eq_true rfl⟩ dX9_set_52 hh0.1 rfl rfl (z_ai (z_ai (z_ai (z_ai z_a0)))) (Nat.le_of_ble_eq_true rfl) (Nat.le_of_ble_eq_true rfl) ⟨Nat.le_refl _, Nat.le_refl _⟩ (z_CIm h ?_)
        intro y10 w9 h
        show z_Sem mX9_set (sh.length, 0) 55 [(3, z_i y5), (0, z_r 161), (1, z_i x1), (2, z_i x2)] [z_i y10] (sh, w9) Q
        exact z_ret (v := some (z_i y10)) dX9_set_55 ⟨rfl, Or.inl rfl⟩ rfl rfl h
      · replace h := h.1 c6
        refine z_bipush dX9_set_33 (by decide) (by decide) ?_
        exact z_ret (v := some (z_i (-2))) dX9_set_35 ⟨rfl, Or.inl rfl⟩ rfl rfl h
    · replace h := h.1 c3
      refine z_iconst dX9_set_19 (by decide) ?_
      exact z_ret (v := some (z_i (-1))) dX9_set_20 ⟨rfl, Or.inl rfl⟩ rfl rfl h
set_option maxRecDepth 100000 in
theorem t_X9_turn {sh : List z_C} {w : Nat → Int → Int} {Q : Option z_V → z_S → Prop} {x1 : Int} (hh0 : z_isMod sh 161) (h : (s_X9_isGap w x1) ∧ (((f_X9_isGap w x1) = 0 → Q (some (z_i (-1))) (sh, w)) ∧ (¬ (f_X9_isGap w x1) = 0 → z_CV mX9_begins [z_r 161] sh w (fun w3 => (s_X9_of w3 x1 4) ∧ (z_R (1 - (f_X9_of w3 x1 4))) ∧ ∀ y6 : Int, y6 = (1 - (f_X9_of w3 x1 4)) → z_CV mX9_puts [z_r 161, z_i x1, z_i 4, z_i y6] sh w3 (fun w7 => z_CI mX9_doneIf [z_r 161, z_i 4, z_i x1, z_i y6, z_i y6] sh w7 (fun y9 w8 => Q (some (z_i y9)) (sh, w8))))))) : z_Sem mX9_turn (sh.length, 0) 0 [(0, z_r 161), (1, z_i x1)] [] (sh, w) Q := by
  refine z_aload_n 0 dX9_turn_0 rfl rfl ?_
  refine z_iload_n 1 dX9_turn_1 rfl rfl ?_
  obtain ⟨q1, h⟩ := h
  refine z_callV (As := [z_i x1]) (rest := []) zmX9_isGap znX9_isGap zsX9_isGap (show vwCl[9]? = some (RX9, TX9, 29) from rfl) zlRX9_154 ⟨Nat.le_of_ble_eq_true rfl, Nat.le_of_ble_eq_true rfl⟩ dX9_turn_2 hh0.1 rfl rfl (z_ai z_a0) (Nat.le_of_ble_eq_true rfl) (Nat.le_of_ble_eq_true rfl) ⟨Nat.le_refl _, Nat.le_refl _⟩ ?_
  refine t_X9_isGap hh0 q1 ?_
  show z_Sem mX9_turn (sh.length, 0) 5 [(0, z_r 161), (1, z_i x1)] [z_i (f_X9_isGap w x1)] (sh, w) Q
  refine z_if_ne (tgt := 10) dX9_turn_5 (by decide) (fun c2 => ?_) (fun c2 => ?_)
  · replace h := h.2 c2
    refine z_aload_n 0 dX9_turn_10 rfl rfl ?_
    refine z_callV (As := []) (rest := []) zmX9_begins znX9_begins zsX9_begins (show vwCl[9]? = some (RX9, TX9, 29) from rfl) zlRX9_69 ⟨Nat.le_of_ble_eq_true rfl, Nat.le_of_ble_eq_true rfl⟩ dX9_turn_11 hh0.1 rfl rfl z_a0 (Nat.le_of_ble_eq_true rfl) (Nat.le_of_ble_eq_true rfl) ⟨Nat.le_refl _, Nat.le_refl _⟩ (z_CVm h ?_)
    intro w3 h
    show z_Sem mX9_turn (sh.length, 0) 14 [(0, z_r 161), (1, z_i x1)] [] (sh, w3) Q
    refine z_iconst dX9_turn_14 (by decide) ?_
    refine z_aload_n 0 dX9_turn_15 rfl rfl ?_
    refine z_iload_n 1 dX9_turn_16 rfl rfl ?_
    refine z_iconst dX9_turn_17 (by decide) ?_
    obtain ⟨q4, h⟩ := h
    refine z_callV (As := [z_i x1, z_i 4]) (rest := [z_i 1]) zmX9_of znX9_of zsX9_of (show vwCl[9]? = some (RX9, TX9, 29) from rfl) zlRX9_76 ⟨Nat.le_of_ble_eq_true rfl, Nat.le_of_ble_eq_true rfl⟩ dX9_turn_18 hh0.1 rfl rfl (z_ai (z_ai z_a0)) (Nat.le_of_ble_eq_true rfl) (Nat.le_of_ble_eq_true rfl) ⟨Nat.le_refl _, Nat.le_refl _⟩ ?_
    refine t_X9_of hh0 q4 ?_
    show z_Sem mX9_turn (sh.length, 0) 21 [(0, z_r 161), (1, z_i x1)] [z_i (f_X9_of w3 x1 4), z_i 1] (sh, w3) Q
    obtain ⟨q5, h⟩ := h
    refine z_isub dX9_turn_21 q5 ?_
    refine z_nam (fun y6 hy6 => ?_)
    replace h := h y6 hy6
    refine z_istore_n (L' := [(2, z_i y6), (0, z_r 161), (1, z_i x1)]) dX9_turn_22 rfl (by decide) rfl ?_
    refine z_aload_n 1 dX9_turn_23 rfl rfl ?_
    refine z_iload_n 2 dX9_turn_24 rfl rfl ?_
    refine z_iconst dX9_turn_25 (by decide) ?_
    refine z_iload_n 0 dX9_turn_26 rfl rfl ?_
    refine z_callV (As := [z_i x1, z_i 4, z_i y6]) (rest := []) zmX9_puts znX9_puts zsX9_puts (show vwCl[9]? = some (RX9, TX9, 29) from rfl) zlRX9_133 ⟨Nat.le_of_ble_eq_true rfl, Nat.le_of_ble_eq_true rfl⟩ dX9_turn_27 hh0.1 rfl rfl (z_ai (z_ai (z_ai z_a0))) (Nat.le_of_ble_eq_true rfl) (Nat.le_of_ble_eq_true rfl) ⟨Nat.le_refl _, Nat.le_refl _⟩ (z_CVm h ?_)
    intro w7 h
    show z_Sem mX9_turn (sh.length, 0) 30 [(2, z_i y6), (0, z_r 161), (1, z_i x1)] [] (sh, w7) Q
    refine z_aload_n 1 dX9_turn_30 rfl rfl ?_
    refine z_iconst dX9_turn_31 (by decide) ?_
    refine z_iload_n 2 dX9_turn_32 rfl rfl ?_
    refine z_iload_n 0 dX9_turn_33 rfl rfl ?_
    refine z_iload_n 0 dX9_turn_34 rfl rfl ?_
    refine z_callV (As := [z_i 4, z_i x1, z_i y6, z_i y6]) (rest := []) zmX9_doneIf znX9_doneIf zsX9_doneIf (show vwCl[9]? = some (RX9, TX9, 29) from rfl) zlRX9_161 ⟨Nat.le_of_ble_eq_true rfl, Nat.le_of_ble_eq_true rfl⟩ dX9_turn_35 hh0.1 rfl rfl (z_ai (z_ai (z_ai (z_ai z_a0)))) (Nat.le_of_ble_eq_true rfl) (Nat.le_of_ble_eq_true rfl) ⟨Nat.le_refl _, Nat.le_refl _⟩ (z_CIm h ?_)
    intro y9 w8 h
    show z_Sem mX9_turn (sh.length, 0) 38 [(2, z_i y6), (0, z_r 161), (1, z_i x1)] [z_i y9] (sh, w8) Q
    exact z_ret (v := some (z_i y9)) dX9_turn_38 ⟨rfl, Or.inl rfl⟩ rfl rfl h
  · replace h := h.1 c2
    refine z_iconst dX9_turn_8 (by decide) ?_
    exact z_ret (v := some (z_i (-1))) dX9_turn_9 ⟨rfl, Or.inl rfl⟩ rfl rfl h
set_option maxRecDepth 100000 in
theorem t_X9_pinned {sh : List z_C} {w : Nat → Int → Int} {Q : Option z_V → z_S → Prop}  (hh0 : z_isMod sh 161) (h : z_Sem mX9_pinned (sh.length, 0) 4 [(0, z_r 161), (1, z_i 0), (2, z_i 1)] [] (sh, w) Q) : z_Sem mX9_pinned (sh.length, 0) 0 [(0, z_r 161)] [] (sh, w) Q := by
  refine z_iconst dX9_pinned_0 (by decide) ?_
  refine z_istore_n (L' := [(1, z_i 0), (0, z_r 161)]) dX9_pinned_1 rfl (by decide) rfl ?_
  refine z_iconst dX9_pinned_2 (by decide) ?_
  refine z_istore_n (L' := [(2, z_i 1), (1, z_i 0), (0, z_r 161)]) dX9_pinned_3 rfl (by decide) rfl ?_
  refine z_sub (L' := [(0, z_r 161), (1, z_i 0), (2, z_i 1)]) [2, 1, 0] rfl ?_
  exact h
set_option maxRecDepth 100000 in
theorem t_X9_pinned_4 {sh : List z_C} {w : Nat → Int → Int} {Q : Option z_V → z_S → Prop} {x1 : Int} {x2 : Int} (hh0 : z_isMod sh 161) (h : (((w 163 1) ≤ x2 → Q (some (z_i x1)) (sh, w)) ∧ (¬ (w 163 1) ≤ x2 → (s_X9_isPinned w x2) ∧ (z_R (x1 + (if (f_X9_isPinned w x2) = 0 then 0 else 1))) ∧ ∀ y8 : Int, y8 = (x1 + (if (f_X9_isPinned w x2) = 0 then 0 else 1)) → (z_R (x2 + 1)) ∧ z_Sem mX9_pinned (sh.length, 0) 4 [(0, z_r 161), (1, z_i y8), (2, z_i (x2 + 1))] [] (sh, w) Q))) : z_Sem mX9_pinned (sh.length, 0) 4 [(0, z_r 161), (1, z_i x1), (2, z_i x2)] [] (sh, w) Q := by
  refine z_iload_n 2 dX9_pinned_4 rfl rfl ?_
  refine z_aload_n 0 dX9_pinned_5 rfl rfl ?_
  refine z_getR (r := 163) zfRX9_17 dX9_pinned_6 hh0.1 rfl ?_
  refine z_iconst dX9_pinned_9 (by decide) ?_
  refine z_iald dX9_pinned_10 hh0.2.2.1 (by decide) ?_
  refine z_icmp_ge (tgt := 36) dX9_pinned_11 (by decide) (fun c1 => ?_) (fun c1 => ?_)
  · replace h := h.1 c1
    refine z_iload_n 1 dX9_pinned_36 rfl rfl ?_
    exact z_ret (v := some (z_i x1)) dX9_pinned_37 ⟨rfl, Or.inl rfl⟩ rfl rfl h
  · replace h := h.2 c1
    refine z_iload_n 1 dX9_pinned_14 rfl rfl ?_
    refine z_aload_n 0 dX9_pinned_15 rfl rfl ?_
    refine z_iload_n 2 dX9_pinned_16 rfl rfl ?_
    obtain ⟨q2, h⟩ := h
    refine z_callV (As := [z_i x2]) (rest := [z_i x1]) zmX9_isPinned znX9_isPinned zsX9_isPinned (show vwCl[9]? = some (RX9, TX9, 29) from rfl) zlRX9_103 ⟨Nat.le_of_ble_eq_true rfl, Nat.le_of_ble_eq_true rfl⟩ dX9_pinned_17 hh0.1 rfl rfl (z_ai z_a0) (Nat.le_of_ble_eq_true rfl) (Nat.le_of_ble_eq_true rfl) ⟨Nat.le_refl _, Nat.le_refl _⟩ ?_
    refine t_X9_isPinned hh0 q2 ?_
    show z_Sem mX9_pinned (sh.length, 0) 20 [(0, z_r 161), (1, z_i x1), (2, z_i x2)] [z_i (f_X9_isPinned w x2), z_i x1] (sh, w) Q
    suffices hJ3 : z_Sem mX9_pinned (sh.length, 0) 28 [(0, z_r 161), (2, z_i x2)] [z_i (if (f_X9_isPinned w x2) = 0 then 0 else 1), z_i x1] (sh, w) Q by
      refine z_if_eq (tgt := 27) dX9_pinned_20 (by decide) (fun c4 => ?_) (fun c4 => ?_)
      · skip
        refine z_iconst dX9_pinned_27 (by decide) ?_
        refine z_sub (L' := [(0, z_r 161), (2, z_i x2)]) [0, 2] rfl ?_
        simp only [if_pos c4] at hJ3
        exact hJ3
      · skip
        refine z_iconst dX9_pinned_23 (by decide) ?_
        refine z_goto (tgt := 28) dX9_pinned_24 (by decide) ?_
        refine z_sub (L' := [(0, z_r 161), (2, z_i x2)]) [0, 2] rfl ?_
        simp only [if_neg c4] at hJ3
        exact hJ3
    obtain ⟨q7, h⟩ := h
    refine z_iadd dX9_pinned_28 q7 ?_
    refine z_nam (fun y8 hy8 => ?_)
    replace h := h y8 hy8
    refine z_istore_n (L' := [(1, z_i y8), (0, z_r 161), (2, z_i x2)]) dX9_pinned_29 rfl (by decide) rfl ?_
    obtain ⟨q9, h⟩ := h
    refine z_iinc (L' := [(2, z_i (x2 + 1)), (1, z_i y8), (0, z_r 161)]) 2 dX9_pinned_30 rfl (by decide) rfl q9 ?_
    refine z_goto (tgt := 4) dX9_pinned_33 (by decide) ?_
    refine z_sub (L' := [(0, z_r 161), (1, z_i y8), (2, z_i (x2 + 1))]) [2, 1, 0] rfl ?_
    exact h
set_option maxRecDepth 100000 in
theorem t_X9_pin {sh : List z_C} {w : Nat → Int → Int} {Q : Option z_V → z_S → Prop} {x1 : Int} {x2 : Int} (hh0 : z_isMod sh 161) (h : (s_X9_isEvent w x1) ∧ (((f_X9_isEvent w x1) = 0 → Q (some (z_i (-1))) (sh, w)) ∧ (¬ (f_X9_isEvent w x1) = 0 → (((f_X9_in w x2 0 (w 163 0)) = 0 → Q (some (z_i (-1))) (sh, w)) ∧ (¬ (f_X9_in w x2 0 (w 163 0)) = 0 → ((x1 = 0 → Q (some (z_i (-3))) (sh, w)) ∧ (¬ x1 = 0 → (s_X9_isPinned w x1) ∧ (((f_X9_isPinned w x1) = 0 → z_CV mX9_begins [z_r 161] sh w (fun w7 => (z_R (133 + x1)) ∧ (z_R (x2 + 1)) ∧ ((0 : Int) ≤ (133 + x1) ∧ (133 + x1) < 264) ∧ ∀ w10 : Nat → Int → Int, w10 = z_W w7 163 (133 + x1) (x2 + 1) → z_CI mX9_pinned [z_r 161] sh w10 (fun y13 w12 => z_CI mX9_doneIf [z_r 161, z_i 5, z_i x1, z_i x2, z_i y13] sh w12 (fun y15 w14 => Q (some (z_i y15)) (sh, w14))))) ∧ (¬ (f_X9_isPinned w x1) = 0 → Q (some (z_i (-3))) (sh, w)))))))))) : z_Sem mX9_pin (sh.length, 0) 0 [(0, z_r 161), (1, z_i x1), (2, z_i x2)] [] (sh, w) Q := by
  refine z_aload_n 0 dX9_pin_0 rfl rfl ?_
  refine z_iload_n 1 dX9_pin_1 rfl rfl ?_
  obtain ⟨q1, h⟩ := h
  refine z_callV (As := [z_i x1]) (rest := []) zmX9_isEvent znX9_isEvent zsX9_isEvent (show vwCl[9]? = some (RX9, TX9, 29) from rfl) zlRX9_80 ⟨Nat.le_of_ble_eq_true rfl, Nat.le_of_ble_eq_true rfl⟩ dX9_pin_2 hh0.1 rfl rfl (z_ai z_a0) (Nat.le_of_ble_eq_true rfl) (Nat.le_of_ble_eq_true rfl) ⟨Nat.le_refl _, Nat.le_refl _⟩ ?_
  refine t_X9_isEvent hh0 q1 ?_
  show z_Sem mX9_pin (sh.length, 0) 5 [(0, z_r 161), (1, z_i x1), (2, z_i x2)] [z_i (f_X9_isEvent w x1)] (sh, w) Q
  refine z_if_eq (tgt := 22) dX9_pin_5 (by decide) (fun c2 => ?_) (fun c2 => ?_)
  · replace h := h.1 c2
    refine z_iconst dX9_pin_22 (by decide) ?_
    exact z_ret (v := some (z_i (-1))) dX9_pin_23 ⟨rfl, Or.inl rfl⟩ rfl rfl h
  · replace h := h.2 c2
    refine z_iload_n 2 dX9_pin_8 rfl rfl ?_
    refine z_iconst dX9_pin_9 (by decide) ?_
    refine z_aload_n 0 dX9_pin_10 rfl rfl ?_
    refine z_getR (r := 163) zfRX9_17 dX9_pin_11 hh0.1 rfl ?_
    refine z_iconst dX9_pin_14 (by decide) ?_
    refine z_iald dX9_pin_15 hh0.2.2.1 (by decide) ?_
    refine z_callS (As := [z_i x2, z_i 0, z_i (w 163 0)]) (rest := []) zmX9_in ztX9_in zlRX9_65 ⟨Nat.le_of_ble_eq_true rfl, Nat.le_of_ble_eq_true rfl⟩ dX9_pin_16 rfl rfl (z_ai (z_ai (z_ai z_a0))) (Nat.le_of_ble_eq_true rfl) (Nat.le_of_ble_eq_true rfl) ⟨Nat.le_refl _, Nat.le_refl _⟩ ?_
    refine t_X9_in  ?_
    show z_Sem mX9_pin (sh.length, 0) 19 [(0, z_r 161), (1, z_i x1), (2, z_i x2)] [z_i (f_X9_in w x2 0 (w 163 0))] (sh, w) Q
    refine z_if_ne (tgt := 24) dX9_pin_19 (by decide) (fun c3 => ?_) (fun c3 => ?_)
    · replace h := h.2 c3
      refine z_iload_n 1 dX9_pin_24 rfl rfl ?_
      refine z_if_eq (tgt := 36) dX9_pin_25 (by decide) (fun c4 => ?_) (fun c4 => ?_)
      · replace h := h.1 c4
        refine z_bipush dX9_pin_36 (by decide) (by decide) ?_
        exact z_ret (v := some (z_i (-3))) dX9_pin_38 ⟨rfl, Or.inl rfl⟩ rfl rfl h
      · replace h := h.2 c4
        refine z_aload_n 0 dX9_pin_28 rfl rfl ?_
        refine z_iload_n 1 dX9_pin_29 rfl rfl ?_
        obtain ⟨q5, h⟩ := h
        refine z_callV (As := [z_i x1]) (rest := []) zmX9_isPinned znX9_isPinned zsX9_isPinned (show vwCl[9]? = some (RX9, TX9, 29) from rfl) zlRX9_103 ⟨Nat.le_of_ble_eq_true rfl, Nat.le_of_ble_eq_true rfl⟩ dX9_pin_30 hh0.1 rfl rfl (z_ai z_a0) (Nat.le_of_ble_eq_true rfl) (Nat.le_of_ble_eq_true rfl) ⟨Nat.le_refl _, Nat.le_refl _⟩ ?_
        refine t_X9_isPinned hh0 q5 ?_
        show z_Sem mX9_pin (sh.length, 0) 33 [(0, z_r 161), (1, z_i x1), (2, z_i x2)] [z_i (f_X9_isPinned w x1)] (sh, w) Q
        refine z_if_eq (tgt := 39) dX9_pin_33 (by decide) (fun c6 => ?_) (fun c6 => ?_)
        · replace h := h.1 c6
          refine z_aload_n 0 dX9_pin_39 rfl rfl ?_
          refine z_callV (As := []) (rest := []) zmX9_begins znX9_begins zsX9_begins (show vwCl[9]? = some (RX9, TX9, 29) from rfl) zlRX9_69 ⟨Nat.le_of_ble_eq_true rfl, Nat.le_of_ble_eq_true rfl⟩ dX9_pin_40 hh0.1 rfl rfl z_a0 (Nat.le_of_ble_eq_true rfl) (Nat.le_of_ble_eq_true rfl) ⟨Nat.le_refl _, Nat.le_refl _⟩ (z_CVm h ?_)
          intro w7 h
          show z_Sem mX9_pin (sh.length, 0) 43 [(0, z_r 161), (1, z_i x1), (2, z_i x2)] [] (sh, w7) Q
          refine z_aload_n 0 dX9_pin_43 rfl rfl ?_
          refine z_getR (r := 163) zfRX9_17 dX9_pin_44 hh0.1 rfl ?_
          refine z_sipush dX9_pin_47 (by decide) (by decide) ?_
          refine z_iload_n 1 dX9_pin_50 rfl rfl ?_
          obtain ⟨q8, h⟩ := h
          refine z_iadd dX9_pin_51 q8 ?_
          refine z_iload_n 2 dX9_pin_52 rfl rfl ?_
          refine z_iconst dX9_pin_53 (by decide) ?_
          obtain ⟨q9, h⟩ := h
          refine z_iadd dX9_pin_54 q9 ?_
          obtain ⟨q11, h⟩ := h
          refine z_iast dX9_pin_55 hh0.2.2.1 q11 ?_
          refine z_genw (fun w10 hw10 => ?_)
          replace h := h w10 hw10
          refine z_aload_n 0 dX9_pin_56 rfl rfl ?_
          refine z_iconst dX9_pin_57 (by decide) ?_
          refine z_iload_n 1 dX9_pin_58 rfl rfl ?_
          refine z_iload_n 2 dX9_pin_59 rfl rfl ?_
          refine z_aload_n 0 dX9_pin_60 rfl rfl ?_
          refine z_callV (As := []) (rest := [z_i x2, z_i x1, z_i 5, z_r 161]) zmX9_pinned znX9_pinned zsX9_pinned (show vwCl[9]? = some (RX9, TX9, 29) from rfl) zlRX9_165 ⟨Nat.le_of_ble_eq_true rfl, Nat.le_of_ble_eq_true rfl⟩ dX9_pin_61 hh0.1 rfl rfl z_a0 (Nat.le_of_ble_eq_true rfl) (Nat.le_of_ble_eq_true rfl) ⟨Nat.le_refl _, Nat.le_refl _⟩ (z_CIm h ?_)
          intro y13 w12 h
          show z_Sem mX9_pin (sh.length, 0) 64 [(0, z_r 161), (1, z_i x1), (2, z_i x2)] [z_i y13, z_i x2, z_i x1, z_i 5, z_r 161] (sh, w12) Q
          refine z_callV (As := [z_i 5, z_i x1, z_i x2, z_i y13]) (rest := []) zmX9_doneIf znX9_doneIf zsX9_doneIf (show vwCl[9]? = some (RX9, TX9, 29) from rfl) zlRX9_161 ⟨Nat.le_of_ble_eq_true rfl, Nat.le_of_ble_eq_true rfl⟩ dX9_pin_64 hh0.1 rfl rfl (z_ai (z_ai (z_ai (z_ai z_a0)))) (Nat.le_of_ble_eq_true rfl) (Nat.le_of_ble_eq_true rfl) ⟨Nat.le_refl _, Nat.le_refl _⟩ (z_CIm h ?_)
          intro y15 w14 h
          show z_Sem mX9_pin (sh.length, 0) 67 [(0, z_r 161), (1, z_i x1), (2, z_i x2)] [z_i y15] (sh, w14) Q
          exact z_ret (v := some (z_i y15)) dX9_pin_67 ⟨rfl, Or.inl rfl⟩ rfl rfl h
        · replace h := h.2 c6
          refine z_bipush dX9_pin_36 (by decide) (by decide) ?_
          exact z_ret (v := some (z_i (-3))) dX9_pin_38 ⟨rfl, Or.inl rfl⟩ rfl rfl h
    · replace h := h.1 c3
      refine z_iconst dX9_pin_22 (by decide) ?_
      exact z_ret (v := some (z_i (-1))) dX9_pin_23 ⟨rfl, Or.inl rfl⟩ rfl rfl h
set_option maxRecDepth 100000 in
theorem t_X9_unpin {sh : List z_C} {w : Nat → Int → Int} {Q : Option z_V → z_S → Prop} {x1 : Int} (hh0 : z_isMod sh 161) (h : (s_X9_isEvent w x1) ∧ (((f_X9_isEvent w x1) = 0 → Q (some (z_i (-1))) (sh, w)) ∧ (¬ (f_X9_isEvent w x1) = 0 → (s_X9_isPinned w x1) ∧ (((f_X9_isPinned w x1) = 0 → Q (some (z_i (-3))) (sh, w)) ∧ (¬ (f_X9_isPinned w x1) = 0 → z_CV mX9_begins [z_r 161] sh w (fun w5 => (z_R (133 + x1)) ∧ ((0 : Int) ≤ (133 + x1) ∧ (133 + x1) < 264) ∧ (z_R ((w5 163 (133 + x1)) - 1)) ∧ ∀ y9 : Int, y9 = ((w5 163 (133 + x1)) - 1) → (z_R (133 + x1)) ∧ ((0 : Int) ≤ (133 + x1) ∧ (133 + x1) < 264) ∧ ∀ w11 : Nat → Int → Int, w11 = z_W w5 163 (133 + x1) 0 → z_CV mX9_logs [z_r 161, z_i 6, z_i x1, z_i y9] sh w11 (fun w13 => z_CI mX9_done [z_r 161, z_i y9] sh w13 (fun y15 w14 => Q (some (z_i y15)) (sh, w14))))))))) : z_Sem mX9_unpin (sh.length, 0) 0 [(0, z_r 161), (1, z_i x1)] [] (sh, w) Q := by
  refine z_aload_n 0 dX9_unpin_0 rfl rfl ?_
  refine z_iload_n 1 dX9_unpin_1 rfl rfl ?_
  obtain ⟨q1, h⟩ := h
  refine z_callV (As := [z_i x1]) (rest := []) zmX9_isEvent znX9_isEvent zsX9_isEvent (show vwCl[9]? = some (RX9, TX9, 29) from rfl) zlRX9_80 ⟨Nat.le_of_ble_eq_true rfl, Nat.le_of_ble_eq_true rfl⟩ dX9_unpin_2 hh0.1 rfl rfl (z_ai z_a0) (Nat.le_of_ble_eq_true rfl) (Nat.le_of_ble_eq_true rfl) ⟨Nat.le_refl _, Nat.le_refl _⟩ ?_
  refine t_X9_isEvent hh0 q1 ?_
  show z_Sem mX9_unpin (sh.length, 0) 5 [(0, z_r 161), (1, z_i x1)] [z_i (f_X9_isEvent w x1)] (sh, w) Q
  refine z_if_ne (tgt := 10) dX9_unpin_5 (by decide) (fun c2 => ?_) (fun c2 => ?_)
  · replace h := h.2 c2
    refine z_aload_n 0 dX9_unpin_10 rfl rfl ?_
    refine z_iload_n 1 dX9_unpin_11 rfl rfl ?_
    obtain ⟨q3, h⟩ := h
    refine z_callV (As := [z_i x1]) (rest := []) zmX9_isPinned znX9_isPinned zsX9_isPinned (show vwCl[9]? = some (RX9, TX9, 29) from rfl) zlRX9_103 ⟨Nat.le_of_ble_eq_true rfl, Nat.le_of_ble_eq_true rfl⟩ dX9_unpin_12 hh0.1 rfl rfl (z_ai z_a0) (Nat.le_of_ble_eq_true rfl) (Nat.le_of_ble_eq_true rfl) ⟨Nat.le_refl _, Nat.le_refl _⟩ ?_
    refine t_X9_isPinned hh0 q3 ?_
    show z_Sem mX9_unpin (sh.length, 0) 15 [(0, z_r 161), (1, z_i x1)] [z_i (f_X9_isPinned w x1)] (sh, w) Q
    refine z_if_ne (tgt := 21) dX9_unpin_15 (by decide) (fun c4 => ?_) (fun c4 => ?_)
    · replace h := h.2 c4
      refine z_aload_n 0 dX9_unpin_21 rfl rfl ?_
      refine z_callV (As := []) (rest := []) zmX9_begins znX9_begins zsX9_begins (show vwCl[9]? = some (RX9, TX9, 29) from rfl) zlRX9_69 ⟨Nat.le_of_ble_eq_true rfl, Nat.le_of_ble_eq_true rfl⟩ dX9_unpin_22 hh0.1 rfl rfl z_a0 (Nat.le_of_ble_eq_true rfl) (Nat.le_of_ble_eq_true rfl) ⟨Nat.le_refl _, Nat.le_refl _⟩ (z_CVm h ?_)
      intro w5 h
      show z_Sem mX9_unpin (sh.length, 0) 25 [(0, z_r 161), (1, z_i x1)] [] (sh, w5) Q
      refine z_aload_n 0 dX9_unpin_25 rfl rfl ?_
      refine z_getR (r := 163) zfRX9_17 dX9_unpin_26 hh0.1 rfl ?_
      refine z_sipush dX9_unpin_29 (by decide) (by decide) ?_
      refine z_iload_n 1 dX9_unpin_32 rfl rfl ?_
      obtain ⟨q6, h⟩ := h
      refine z_iadd dX9_unpin_33 q6 ?_
      obtain ⟨q7, h⟩ := h
      refine z_iald dX9_unpin_34 hh0.2.2.1 q7 ?_
      refine z_iconst dX9_unpin_35 (by decide) ?_
      obtain ⟨q8, h⟩ := h
      refine z_isub dX9_unpin_36 q8 ?_
      refine z_nam (fun y9 hy9 => ?_)
      replace h := h y9 hy9
      refine z_istore_n (L' := [(2, z_i y9), (0, z_r 161), (1, z_i x1)]) dX9_unpin_37 rfl (by decide) rfl ?_
      refine z_aload_n 1 dX9_unpin_38 rfl rfl ?_
      refine z_getR (r := 163) zfRX9_17 dX9_unpin_39 hh0.1 rfl ?_
      refine z_sipush dX9_unpin_42 (by decide) (by decide) ?_
      refine z_iload_n 2 dX9_unpin_45 rfl rfl ?_
      obtain ⟨q10, h⟩ := h
      refine z_iadd dX9_unpin_46 q10 ?_
      refine z_iconst dX9_unpin_47 (by decide) ?_
      obtain ⟨q12, h⟩ := h
      refine z_iast dX9_unpin_48 hh0.2.2.1 q12 ?_
      refine z_genw (fun w11 hw11 => ?_)
      replace h := h w11 hw11
      refine z_aload_n 1 dX9_unpin_49 rfl rfl ?_
      refine z_bipush dX9_unpin_50 (by decide) (by decide) ?_
      refine z_iload_n 2 dX9_unpin_52 rfl rfl ?_
      refine z_iload_n 0 dX9_unpin_53 rfl rfl ?_
      refine z_callV (As := [z_i 6, z_i x1, z_i y9]) (rest := []) zmX9_logs znX9_logs zsX9_logs (show vwCl[9]? = some (RX9, TX9, 29) from rfl) zlRX9_140 ⟨Nat.le_of_ble_eq_true rfl, Nat.le_of_ble_eq_true rfl⟩ dX9_unpin_54 hh0.1 rfl rfl (z_ai (z_ai (z_ai z_a0))) (Nat.le_of_ble_eq_true rfl) (Nat.le_of_ble_eq_true rfl) ⟨Nat.le_refl _, Nat.le_refl _⟩ (z_CVm h ?_)
      intro w13 h
      show z_Sem mX9_unpin (sh.length, 0) 57 [(2, z_i y9), (0, z_r 161), (1, z_i x1)] [] (sh, w13) Q
      refine z_aload_n 1 dX9_unpin_57 rfl rfl ?_
      refine z_iload_n 0 dX9_unpin_58 rfl rfl ?_
      refine z_callV (As := [z_i y9]) (rest := []) zmX9_done znX9_done zsX9_done (show vwCl[9]? = some (RX9, TX9, 29) from rfl) zlRX9_72 ⟨Nat.le_of_ble_eq_true rfl, Nat.le_of_ble_eq_true rfl⟩ dX9_unpin_59 hh0.1 rfl rfl (z_ai z_a0) (Nat.le_of_ble_eq_true rfl) (Nat.le_of_ble_eq_true rfl) ⟨Nat.le_refl _, Nat.le_refl _⟩ (z_CIm h ?_)
      intro y15 w14 h
      show z_Sem mX9_unpin (sh.length, 0) 62 [(2, z_i y9), (0, z_r 161), (1, z_i x1)] [z_i y15] (sh, w14) Q
      exact z_ret (v := some (z_i y15)) dX9_unpin_62 ⟨rfl, Or.inl rfl⟩ rfl rfl h
    · replace h := h.1 c4
      refine z_bipush dX9_unpin_18 (by decide) (by decide) ?_
      exact z_ret (v := some (z_i (-3))) dX9_unpin_20 ⟨rfl, Or.inl rfl⟩ rfl rfl h
  · replace h := h.1 c2
    refine z_iconst dX9_unpin_8 (by decide) ?_
    exact z_ret (v := some (z_i (-1))) dX9_unpin_9 ⟨rfl, Or.inl rfl⟩ rfl rfl h
set_option maxRecDepth 100000 in
theorem t_X9_end {sh : List z_C} {w : Nat → Int → Int} {Q : Option z_V → z_S → Prop} {x1 : Int} (hh0 : z_isMod sh 161) (h : (((f_X9_in w x1 1 999) = 0 → Q (some (z_i (-1))) (sh, w)) ∧ (¬ (f_X9_in w x1 1 999) = 0 → ∀ y2 : Int, y2 = (w 163 0) → ((y2 = x1 → Q (some (z_i (-2))) (sh, w)) ∧ (¬ y2 = x1 → z_CV mX9_begins [z_r 161] sh w (fun w4 => ∀ w5 : Nat → Int → Int, w5 = z_W w4 163 0 x1 → z_CI mX9_doneIf [z_r 161, z_i 7, z_i x1, z_i y2, z_i y2] sh w5 (fun y7 w6 => Q (some (z_i y7)) (sh, w6)))))))) : z_Sem mX9_end (sh.length, 0) 0 [(0, z_r 161), (1, z_i x1)] [] (sh, w) Q := by
  refine z_iload_n 1 dX9_end_0 rfl rfl ?_
  refine z_iconst dX9_end_1 (by decide) ?_
  refine z_sipush dX9_end_2 (by decide) (by decide) ?_
  refine z_callS (As := [z_i x1, z_i 1, z_i 999]) (rest := []) zmX9_in ztX9_in zlRX9_65 ⟨Nat.le_of_ble_eq_true rfl, Nat.le_of_ble_eq_true rfl⟩ dX9_end_5 rfl rfl (z_ai (z_ai (z_ai z_a0))) (Nat.le_of_ble_eq_true rfl) (Nat.le_of_ble_eq_true rfl) ⟨Nat.le_refl _, Nat.le_refl _⟩ ?_
  refine t_X9_in  ?_
  show z_Sem mX9_end (sh.length, 0) 8 [(0, z_r 161), (1, z_i x1)] [z_i (f_X9_in w x1 1 999)] (sh, w) Q
  refine z_if_ne (tgt := 13) dX9_end_8 (by decide) (fun c1 => ?_) (fun c1 => ?_)
  · replace h := h.2 c1
    refine z_aload_n 0 dX9_end_13 rfl rfl ?_
    refine z_getR (r := 163) zfRX9_17 dX9_end_14 hh0.1 rfl ?_
    refine z_iconst dX9_end_17 (by decide) ?_
    refine z_iald dX9_end_18 hh0.2.2.1 (by decide) ?_
    refine z_nam (fun y2 hy2 => ?_)
    replace h := h y2 hy2
    refine z_istore_n (L' := [(2, z_i y2), (0, z_r 161), (1, z_i x1)]) dX9_end_19 rfl (by decide) rfl ?_
    refine z_iload_n 0 dX9_end_20 rfl rfl ?_
    refine z_iload_n 2 dX9_end_21 rfl rfl ?_
    refine z_icmp_ne (tgt := 28) dX9_end_22 (by decide) (fun c3 => ?_) (fun c3 => ?_)
    · replace h := h.2 c3
      refine z_aload_n 1 dX9_end_28 rfl rfl ?_
      refine z_callV (As := []) (rest := []) zmX9_begins znX9_begins zsX9_begins (show vwCl[9]? = some (RX9, TX9, 29) from rfl) zlRX9_69 ⟨Nat.le_of_ble_eq_true rfl, Nat.le_of_ble_eq_true rfl⟩ dX9_end_29 hh0.1 rfl rfl z_a0 (Nat.le_of_ble_eq_true rfl) (Nat.le_of_ble_eq_true rfl) ⟨Nat.le_refl _, Nat.le_refl _⟩ (z_CVm h ?_)
      intro w4 h
      show z_Sem mX9_end (sh.length, 0) 32 [(2, z_i y2), (0, z_r 161), (1, z_i x1)] [] (sh, w4) Q
      refine z_aload_n 1 dX9_end_32 rfl rfl ?_
      refine z_getR (r := 163) zfRX9_17 dX9_end_33 hh0.1 rfl ?_
      refine z_iconst dX9_end_36 (by decide) ?_
      refine z_iload_n 2 dX9_end_37 rfl rfl ?_
      refine z_iast dX9_end_38 hh0.2.2.1 (by decide) ?_
      refine z_genw (fun w5 hw5 => ?_)
      replace h := h w5 hw5
      refine z_aload_n 1 dX9_end_39 rfl rfl ?_
      refine z_bipush dX9_end_40 (by decide) (by decide) ?_
      refine z_iload_n 2 dX9_end_42 rfl rfl ?_
      refine z_iload_n 0 dX9_end_43 rfl rfl ?_
      refine z_iload_n 0 dX9_end_44 rfl rfl ?_
      refine z_callV (As := [z_i 7, z_i x1, z_i y2, z_i y2]) (rest := []) zmX9_doneIf znX9_doneIf zsX9_doneIf (show vwCl[9]? = some (RX9, TX9, 29) from rfl) zlRX9_161 ⟨Nat.le_of_ble_eq_true rfl, Nat.le_of_ble_eq_true rfl⟩ dX9_end_45 hh0.1 rfl rfl (z_ai (z_ai (z_ai (z_ai z_a0)))) (Nat.le_of_ble_eq_true rfl) (Nat.le_of_ble_eq_true rfl) ⟨Nat.le_refl _, Nat.le_refl _⟩ (z_CIm h ?_)
      intro y7 w6 h
      show z_Sem mX9_end (sh.length, 0) 48 [(2, z_i y2), (0, z_r 161), (1, z_i x1)] [z_i y7] (sh, w6) Q
      exact z_ret (v := some (z_i y7)) dX9_end_48 ⟨rfl, Or.inl rfl⟩ rfl rfl h
    · replace h := h.1 c3
      refine z_bipush dX9_end_25 (by decide) (by decide) ?_
      exact z_ret (v := some (z_i (-2))) dX9_end_27 ⟨rfl, Or.inl rfl⟩ rfl rfl h
  · replace h := h.1 c1
    refine z_iconst dX9_end_11 (by decide) ?_
    exact z_ret (v := some (z_i (-1))) dX9_end_12 ⟨rfl, Or.inl rfl⟩ rfl rfl h
set_option maxRecDepth 100000 in
theorem t_X9_reverse {sh : List z_C} {w : Nat → Int → Int} {Q : Option z_V → z_S → Prop} {x1 : Int} (hh0 : z_isMod sh 161) (h : (s_X9_isGap w x1) ∧ (((f_X9_isGap w x1) = 0 → Q (some (z_i (-1))) (sh, w)) ∧ (¬ (f_X9_isGap w x1) = 0 → z_CV mX9_begins [z_r 161] sh w (fun w3 => (s_X9_of w3 x1 0) ∧ ∀ y5 : Int, y5 = (f_X9_of w3 x1 0) → (s_X9_of w3 x1 1) ∧ z_CV mX9_puts [z_r 161, z_i x1, z_i 0, z_i (f_X9_of w3 x1 1)] sh w3 (fun w7 => z_CV mX9_puts [z_r 161, z_i x1, z_i 1, z_i y5] sh w7 (fun w8 => (s_X9_of w8 x1 4) ∧ (s_X9_of w8 x1 4) ∧ z_CI mX9_doneIf [z_r 161, z_i 10, z_i x1, z_i (f_X9_of w8 x1 4), z_i (f_X9_of w8 x1 4)] sh w8 (fun y12 w11 => Q (some (z_i y12)) (sh, w11)))))))) : z_Sem mX9_reverse (sh.length, 0) 0 [(0, z_r 161), (1, z_i x1)] [] (sh, w) Q := by
  refine z_aload_n 0 dX9_reverse_0 rfl rfl ?_
  refine z_iload_n 1 dX9_reverse_1 rfl rfl ?_
  obtain ⟨q1, h⟩ := h
  refine z_callV (As := [z_i x1]) (rest := []) zmX9_isGap znX9_isGap zsX9_isGap (show vwCl[9]? = some (RX9, TX9, 29) from rfl) zlRX9_154 ⟨Nat.le_of_ble_eq_true rfl, Nat.le_of_ble_eq_true rfl⟩ dX9_reverse_2 hh0.1 rfl rfl (z_ai z_a0) (Nat.le_of_ble_eq_true rfl) (Nat.le_of_ble_eq_true rfl) ⟨Nat.le_refl _, Nat.le_refl _⟩ ?_
  refine t_X9_isGap hh0 q1 ?_
  show z_Sem mX9_reverse (sh.length, 0) 5 [(0, z_r 161), (1, z_i x1)] [z_i (f_X9_isGap w x1)] (sh, w) Q
  refine z_if_ne (tgt := 10) dX9_reverse_5 (by decide) (fun c2 => ?_) (fun c2 => ?_)
  · replace h := h.2 c2
    refine z_aload_n 0 dX9_reverse_10 rfl rfl ?_
    refine z_callV (As := []) (rest := []) zmX9_begins znX9_begins zsX9_begins (show vwCl[9]? = some (RX9, TX9, 29) from rfl) zlRX9_69 ⟨Nat.le_of_ble_eq_true rfl, Nat.le_of_ble_eq_true rfl⟩ dX9_reverse_11 hh0.1 rfl rfl z_a0 (Nat.le_of_ble_eq_true rfl) (Nat.le_of_ble_eq_true rfl) ⟨Nat.le_refl _, Nat.le_refl _⟩ (z_CVm h ?_)
    intro w3 h
    show z_Sem mX9_reverse (sh.length, 0) 14 [(0, z_r 161), (1, z_i x1)] [] (sh, w3) Q
    refine z_aload_n 0 dX9_reverse_14 rfl rfl ?_
    refine z_iload_n 1 dX9_reverse_15 rfl rfl ?_
    refine z_iconst dX9_reverse_16 (by decide) ?_
    obtain ⟨q4, h⟩ := h
    refine z_callV (As := [z_i x1, z_i 0]) (rest := []) zmX9_of znX9_of zsX9_of (show vwCl[9]? = some (RX9, TX9, 29) from rfl) zlRX9_76 ⟨Nat.le_of_ble_eq_true rfl, Nat.le_of_ble_eq_true rfl⟩ dX9_reverse_17 hh0.1 rfl rfl (z_ai (z_ai z_a0)) (Nat.le_of_ble_eq_true rfl) (Nat.le_of_ble_eq_true rfl) ⟨Nat.le_refl _, Nat.le_refl _⟩ ?_
    refine t_X9_of hh0 q4 ?_
    show z_Sem mX9_reverse (sh.length, 0) 20 [(0, z_r 161), (1, z_i x1)] [z_i (f_X9_of w3 x1 0)] (sh, w3) Q
    refine z_nam (fun y5 hy5 => ?_)
    replace h := h y5 hy5
    refine z_istore_n (L' := [(2, z_i y5), (0, z_r 161), (1, z_i x1)]) dX9_reverse_20 rfl (by decide) rfl ?_
    refine z_aload_n 1 dX9_reverse_21 rfl rfl ?_
    refine z_iload_n 2 dX9_reverse_22 rfl rfl ?_
    refine z_iconst dX9_reverse_23 (by decide) ?_
    refine z_aload_n 1 dX9_reverse_24 rfl rfl ?_
    refine z_iload_n 2 dX9_reverse_25 rfl rfl ?_
    refine z_iconst dX9_reverse_26 (by decide) ?_
    obtain ⟨q6, h⟩ := h
    refine z_callV (As := [z_i x1, z_i 1]) (rest := [z_i 0, z_i x1, z_r 161]) zmX9_of znX9_of zsX9_of (show vwCl[9]? = some (RX9, TX9, 29) from rfl) zlRX9_76 ⟨Nat.le_of_ble_eq_true rfl, Nat.le_of_ble_eq_true rfl⟩ dX9_reverse_27 hh0.1 rfl rfl (z_ai (z_ai z_a0)) (Nat.le_of_ble_eq_true rfl) (Nat.le_of_ble_eq_true rfl) ⟨Nat.le_refl _, Nat.le_refl _⟩ ?_
    refine t_X9_of hh0 q6 ?_
    show z_Sem mX9_reverse (sh.length, 0) 30 [(2, z_i y5), (0, z_r 161), (1, z_i x1)] [z_i (f_X9_of w3 x1 1), z_i 0, z_i x1, z_r 161] (sh, w3) Q
    refine z_callV (As := [z_i x1, z_i 0, z_i (f_X9_of w3 x1 1)]) (rest := []) zmX9_puts znX9_puts zsX9_puts (show vwCl[9]? = some (RX9, TX9, 29) from rfl) zlRX9_133 ⟨Nat.le_of_ble_eq_true rfl, Nat.le_of_ble_eq_true rfl⟩ dX9_reverse_30 hh0.1 rfl rfl (z_ai (z_ai (z_ai z_a0))) (Nat.le_of_ble_eq_true rfl) (Nat.le_of_ble_eq_true rfl) ⟨Nat.le_refl _, Nat.le_refl _⟩ (z_CVm h ?_)
    intro w7 h
    show z_Sem mX9_reverse (sh.length, 0) 33 [(2, z_i y5), (0, z_r 161), (1, z_i x1)] [] (sh, w7) Q
    refine z_aload_n 1 dX9_reverse_33 rfl rfl ?_
    refine z_iload_n 2 dX9_reverse_34 rfl rfl ?_
    refine z_iconst dX9_reverse_35 (by decide) ?_
    refine z_iload_n 0 dX9_reverse_36 rfl rfl ?_
    refine z_callV (As := [z_i x1, z_i 1, z_i y5]) (rest := []) zmX9_puts znX9_puts zsX9_puts (show vwCl[9]? = some (RX9, TX9, 29) from rfl) zlRX9_133 ⟨Nat.le_of_ble_eq_true rfl, Nat.le_of_ble_eq_true rfl⟩ dX9_reverse_37 hh0.1 rfl rfl (z_ai (z_ai (z_ai z_a0))) (Nat.le_of_ble_eq_true rfl) (Nat.le_of_ble_eq_true rfl) ⟨Nat.le_refl _, Nat.le_refl _⟩ (z_CVm h ?_)
    intro w8 h
    show z_Sem mX9_reverse (sh.length, 0) 40 [(2, z_i y5), (0, z_r 161), (1, z_i x1)] [] (sh, w8) Q
    refine z_aload_n 1 dX9_reverse_40 rfl rfl ?_
    refine z_bipush dX9_reverse_41 (by decide) (by decide) ?_
    refine z_iload_n 2 dX9_reverse_43 rfl rfl ?_
    refine z_aload_n 1 dX9_reverse_44 rfl rfl ?_
    refine z_iload_n 2 dX9_reverse_45 rfl rfl ?_
    refine z_iconst dX9_reverse_46 (by decide) ?_
    obtain ⟨q9, h⟩ := h
    refine z_callV (As := [z_i x1, z_i 4]) (rest := [z_i x1, z_i 10, z_r 161]) zmX9_of znX9_of zsX9_of (show vwCl[9]? = some (RX9, TX9, 29) from rfl) zlRX9_76 ⟨Nat.le_of_ble_eq_true rfl, Nat.le_of_ble_eq_true rfl⟩ dX9_reverse_47 hh0.1 rfl rfl (z_ai (z_ai z_a0)) (Nat.le_of_ble_eq_true rfl) (Nat.le_of_ble_eq_true rfl) ⟨Nat.le_refl _, Nat.le_refl _⟩ ?_
    refine t_X9_of hh0 q9 ?_
    show z_Sem mX9_reverse (sh.length, 0) 50 [(2, z_i y5), (0, z_r 161), (1, z_i x1)] [z_i (f_X9_of w8 x1 4), z_i x1, z_i 10, z_r 161] (sh, w8) Q
    refine z_aload_n 1 dX9_reverse_50 rfl rfl ?_
    refine z_iload_n 2 dX9_reverse_51 rfl rfl ?_
    refine z_iconst dX9_reverse_52 (by decide) ?_
    obtain ⟨q10, h⟩ := h
    refine z_callV (As := [z_i x1, z_i 4]) (rest := [z_i (f_X9_of w8 x1 4), z_i x1, z_i 10, z_r 161]) zmX9_of znX9_of zsX9_of (show vwCl[9]? = some (RX9, TX9, 29) from rfl) zlRX9_76 ⟨Nat.le_of_ble_eq_true rfl, Nat.le_of_ble_eq_true rfl⟩ dX9_reverse_53 hh0.1 rfl rfl (z_ai (z_ai z_a0)) (Nat.le_of_ble_eq_true rfl) (Nat.le_of_ble_eq_true rfl) ⟨Nat.le_refl _, Nat.le_refl _⟩ ?_
    refine t_X9_of hh0 q10 ?_
    show z_Sem mX9_reverse (sh.length, 0) 56 [(2, z_i y5), (0, z_r 161), (1, z_i x1)] [z_i (f_X9_of w8 x1 4), z_i (f_X9_of w8 x1 4), z_i x1, z_i 10, z_r 161] (sh, w8) Q
    refine z_callV (As := [z_i 10, z_i x1, z_i (f_X9_of w8 x1 4), z_i (f_X9_of w8 x1 4)]) (rest := []) zmX9_doneIf znX9_doneIf zsX9_doneIf (show vwCl[9]? = some (RX9, TX9, 29) from rfl) zlRX9_161 ⟨Nat.le_of_ble_eq_true rfl, Nat.le_of_ble_eq_true rfl⟩ dX9_reverse_56 hh0.1 rfl rfl (z_ai (z_ai (z_ai (z_ai z_a0)))) (Nat.le_of_ble_eq_true rfl) (Nat.le_of_ble_eq_true rfl) ⟨Nat.le_refl _, Nat.le_refl _⟩ (z_CIm h ?_)
    intro y12 w11 h
    show z_Sem mX9_reverse (sh.length, 0) 59 [(2, z_i y5), (0, z_r 161), (1, z_i x1)] [z_i y12] (sh, w11) Q
    exact z_ret (v := some (z_i y12)) dX9_reverse_59 ⟨rfl, Or.inl rfl⟩ rfl rfl h
  · replace h := h.1 c2
    refine z_iconst dX9_reverse_8 (by decide) ?_
    exact z_ret (v := some (z_i (-1))) dX9_reverse_9 ⟨rfl, Or.inl rfl⟩ rfl rfl h
