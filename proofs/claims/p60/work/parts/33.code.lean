set_option maxRecDepth 100000 in
theorem t_X8_leastEnd {sh : List z_C} {w : Nat → Int → Int} {Q : Option z_V → z_S → Prop}  (hh0 : z_isTG sh 0) (h : z_CI mX2_greatestEarliest [z_r 12] sh w (fun y2 w1 => Q (some (z_i (f_J9_max_7cf53 w1 1 y2))) (sh, w1))) : z_Sem mX8_leastEnd (sh.length, 0) 0 [(0, z_r 0)] [] (sh, w) Q := by
  refine z_iconst dX8_leastEnd_0 (by decide) ?_
  refine z_aload_n 0 dX8_leastEnd_1 rfl rfl ?_
  refine z_getR (r := 12) zfRX8_19 dX8_leastEnd_2 hh0.1 rfl ?_
  refine z_callV (As := []) (rest := [z_i 1]) zmX2_greatestEarliest znX2_greatestEarliest zsX2_greatestEarliest (show z_Cl[2]? = some (RX2, TX2, 7) from rfl) zlRX8_188 ⟨Nat.le_of_ble_eq_true rfl, Nat.le_of_ble_eq_true rfl⟩ dX8_leastEnd_5 hh0.2.2.1.1 rfl rfl z_a0 (Nat.le_of_ble_eq_true rfl) (Nat.le_of_ble_eq_true rfl) ⟨rfl, rfl⟩ (z_CIm h ?_)
  intro y2 w1 h
  show z_Sem mX8_leastEnd (sh.length, 0) 8 [(0, z_r 0)] [z_i y2, z_i 1] (sh, w1) Q
  refine z_callS (As := [z_i 1, z_i y2]) (rest := []) zmJ9_max_7cf53 ztJ9_max_7cf53 zlRX8_353 ⟨Nat.le_of_ble_eq_true rfl, Nat.le_of_ble_eq_true rfl⟩ dX8_leastEnd_8 rfl rfl (z_ai (z_ai z_a0)) (Nat.le_of_ble_eq_true rfl) (Nat.le_of_ble_eq_true rfl) ⟨rfl, rfl⟩ ?_
  refine t_J9_max_7cf53  ?_
  show z_Sem mX8_leastEnd (sh.length, 0) 11 [(0, z_r 0)] [z_i (f_J9_max_7cf53 w1 1 y2)] (sh, w1) Q
  exact z_ret (v := some (z_i (f_J9_max_7cf53 w1 1 y2))) dX8_leastEnd_11 ⟨rfl, Or.inl rfl⟩ rfl h
def f_X8_log (w : Nat → Int → Int) (x1 : Int) (x2 : Int) : Int := if x1 < 0 then -1 else if x2 < 0 then -1 else if x2 ≤ 2 then (if (w 10 2) ≤ x1 then -2 else f_X1_part w 10 x1 x2) else -1
def s_X8_log (w : Nat → Int → Int) (x1 : Int) (x2 : Int) : Prop := (¬ x1 < 0 → (¬ x2 < 0 → (x2 ≤ 2 → (¬ (w 10 2) ≤ x1 → (s_X1_part w 10 x1 x2) ∧ True) ∧ True) ∧ True) ∧ True) ∧ True
set_option maxRecDepth 100000 in
theorem t_X8_log {sh : List z_C} {w : Nat → Int → Int} {Q : Option z_V → z_S → Prop} {x1 : Int} {x2 : Int} (hh0 : z_isTG sh 0) (hs : s_X8_log w x1 x2) (h : Q (some (z_i (f_X8_log w x1 x2))) (sh, w)) : z_Sem mX8_log (sh.length, 0) 0 [(0, z_r 0), (1, z_i x1), (2, z_i x2)] [] (sh, w) Q := by
  unfold f_X8_log at h
  unfold s_X8_log at hs
  refine z_iload_n 1 dX8_log_0 rfl rfl ?_
  obtain ⟨m12, hs⟩ := hs
  refine z_if_lt (tgt := 13) dX8_log_1 (by decide) (fun c1 => ?_) (fun c1 => ?_)
  · skip
    rw [if_pos c1] at h
    refine z_iconst dX8_log_13 (by decide) ?_
    exact z_ret (v := some (z_i (-1))) dX8_log_14 ⟨rfl, Or.inl rfl⟩ rfl h
  · skip
    rw [if_neg c1] at h
    replace hs := m12 c1
    refine z_iload_n 2 dX8_log_4 rfl rfl ?_
    obtain ⟨m11, hs⟩ := hs
    refine z_if_lt (tgt := 13) dX8_log_5 (by decide) (fun c2 => ?_) (fun c2 => ?_)
    · skip
      rw [if_pos c2] at h
      refine z_iconst dX8_log_13 (by decide) ?_
      exact z_ret (v := some (z_i (-1))) dX8_log_14 ⟨rfl, Or.inl rfl⟩ rfl h
    · skip
      rw [if_neg c2] at h
      replace hs := m11 c2
      refine z_iload_n 2 dX8_log_8 rfl rfl ?_
      refine z_iconst dX8_log_9 (by decide) ?_
      obtain ⟨m10, hs⟩ := hs
      refine z_icmp_le (tgt := 15) dX8_log_10 (by decide) (fun c3 => ?_) (fun c3 => ?_)
      · skip
        rw [if_pos c3] at h
        replace hs := m10 c3
        refine z_iload_n 1 dX8_log_15 rfl rfl ?_
        refine z_aload_n 0 dX8_log_16 rfl rfl ?_
        refine z_getR (r := 1) zfRX8_12 dX8_log_17 hh0.1 rfl ?_
        refine z_getR (r := 10) zfRX8_124 dX8_log_20 hh0.2.1.1 rfl ?_
        refine z_getI (ki := 2) zfRX8_254 dX8_log_23 hh0.2.1.2.2.2.2.2.2.2.2.2.1 rfl rfl ?_
        obtain ⟨m6, hs⟩ := hs
        suffices hJ4 : z_Sem mX8_log (sh.length, 0) 46 [] [z_i (if (w 10 2) ≤ x1 then -2 else f_X1_part w 10 x1 x2)] (sh, w) Q by
          refine z_icmp_ge (tgt := 44) dX8_log_26 (by decide) (fun c5 => ?_) (fun c5 => ?_)
          · skip
            refine z_bipush dX8_log_44 (by decide) (by decide) ?_
            refine z_sub (L' := []) [] rfl ?_
            simp only [if_pos c5] at hJ4
            exact hJ4
          · skip
            have ho8 := m6 c5
            refine z_aload_n 0 dX8_log_29 rfl rfl ?_
            refine z_getR (r := 1) zfRX8_12 dX8_log_30 hh0.1 rfl ?_
            refine z_getR (r := 10) zfRX8_124 dX8_log_33 hh0.2.1.1 rfl ?_
            refine z_iload_n 1 dX8_log_36 rfl rfl ?_
            refine z_iload_n 2 dX8_log_37 rfl rfl ?_
            obtain ⟨q9, ho8⟩ := ho8
            refine z_callV (As := [z_i x1, z_i x2]) (rest := []) zmX1_part znX1_part zsX1_part (show z_Cl[1]? = some (RX1, TX1, 3) from rfl) zlRX8_356 ⟨Nat.le_of_ble_eq_true rfl, Nat.le_of_ble_eq_true rfl⟩ dX8_log_38 hh0.2.1.2.2.2.2.2.2.2.2.2.1 rfl rfl (z_ai (z_ai z_a0)) (Nat.le_of_ble_eq_true rfl) (Nat.le_of_ble_eq_true rfl) ⟨rfl, rfl⟩ ?_
            refine t_X1_part hh0.2.1.2.2.2.2.2.2.2.2.2 q9 ?_
            show z_Sem mX8_log (sh.length, 0) 41 [(0, z_r 0), (1, z_i x1), (2, z_i x2)] [z_i (f_X1_part w 10 x1 x2)] (sh, w) Q
            refine z_goto (tgt := 46) dX8_log_41 (by decide) ?_
            refine z_sub (L' := []) [] rfl ?_
            simp only [if_neg c5] at hJ4
            exact hJ4
        exact z_ret (v := some (z_i (if (w 10 2) ≤ x1 then -2 else f_X1_part w 10 x1 x2))) dX8_log_46 ⟨rfl, Or.inl rfl⟩ rfl h
      · skip
        rw [if_neg c3] at h
        refine z_iconst dX8_log_13 (by decide) ?_
        exact z_ret (v := some (z_i (-1))) dX8_log_14 ⟨rfl, Or.inl rfl⟩ rfl h
set_option maxRecDepth 100000 in
theorem t_X8_tightShare {sh : List z_C} {w : Nat → Int → Int} {Q : Option z_V → z_S → Prop}  (hh0 : z_isTG sh 0) (h : z_CI mX3_countOn [z_r 1] sh w (fun y2 w1 => ((y2 = 0 → Q (some (z_f (FP.fconst0))) (sh, w1)) ∧ (¬ y2 = 0 → z_CI mX8_countTight [z_r 0] sh w1 (fun y5 w4 => (vf_n32 (FP.fdiv (FP.i2f (Int32.ofInt y5)) (FP.i2f (Int32.ofInt y2)))) ∧ Q (some (z_f (FP.fdiv (FP.i2f (Int32.ofInt y5)) (FP.i2f (Int32.ofInt y2))))) (sh, w4)))))) : z_Sem mX8_tightShare (sh.length, 0) 0 [(0, z_r 0)] [] (sh, w) Q := by
  refine z_aload_n 0 dX8_tightShare_0 rfl rfl ?_
  refine z_getR (r := 1) zfRX8_12 dX8_tightShare_1 hh0.1 rfl ?_
  refine z_callV (As := []) (rest := []) zmX3_countOn znX3_countOn zsX3_countOn (show z_Cl[3]? = some (RX3, TX3, 12) from rfl) zlRX8_239 ⟨Nat.le_of_ble_eq_true rfl, Nat.le_of_ble_eq_true rfl⟩ dX8_tightShare_4 hh0.2.1.1 rfl rfl z_a0 (Nat.le_of_ble_eq_true rfl) (Nat.le_of_ble_eq_true rfl) ⟨rfl, rfl⟩ (z_CIm h ?_)
  intro y2 w1 h
  show z_Sem mX8_tightShare (sh.length, 0) 7 [(0, z_r 0)] [z_i y2] (sh, w1) Q
  refine z_istore_n (L' := [(1, z_i y2), (0, z_r 0)]) dX8_tightShare_7 rfl (by decide) rfl ?_
  refine z_iload_n 0 dX8_tightShare_8 rfl rfl ?_
  refine z_if_ne (tgt := 16) dX8_tightShare_9 (by decide) (fun c3 => ?_) (fun c3 => ?_)
  · replace h := h.2 c3
    refine z_aload_n 1 dX8_tightShare_16 rfl rfl ?_
    refine z_callV (As := []) (rest := []) zmX8_countTight znX8_countTight zsX8_countTight (show z_Cl[8]? = some (RX8, TX8, 9) from rfl) zlRX8_245 ⟨Nat.le_of_ble_eq_true rfl, Nat.le_of_ble_eq_true rfl⟩ dX8_tightShare_17 hh0.1 rfl rfl z_a0 (Nat.le_of_ble_eq_true rfl) (Nat.le_of_ble_eq_true rfl) ⟨rfl, rfl⟩ (z_CIm h ?_)
    intro y5 w4 h
    show z_Sem mX8_tightShare (sh.length, 0) 20 [(1, z_i y2), (0, z_r 0)] [z_i y5] (sh, w4) Q
    refine z_i2f dX8_tightShare_20 ?_
    refine z_iload_n 0 dX8_tightShare_21 rfl rfl ?_
    refine z_i2f dX8_tightShare_22 ?_
    obtain ⟨q6, h⟩ := h
    refine z_fdiv dX8_tightShare_23 q6 ?_
    exact z_ret (v := some (z_f (FP.fdiv (FP.i2f (Int32.ofInt y5)) (FP.i2f (Int32.ofInt y2))))) dX8_tightShare_24 ⟨rfl, rfl⟩ rfl h
  · replace h := h.1 c3
    refine z_fconst0 dX8_tightShare_12 ?_
    refine z_goto (tgt := 24) dX8_tightShare_13 (by decide) ?_
    exact z_ret (v := some (z_f (FP.fconst0))) dX8_tightShare_24 ⟨rfl, rfl⟩ rfl h
set_option maxRecDepth 100000 in
theorem t_X8_meanRoom {sh : List z_C} {w : Nat → Int → Int} {Q : Option z_V → z_S → Prop}  (hh0 : z_isTG sh 0) (h : (((w 1 10) = 0 → Q (some (z_d (FP.dconst0))) (sh, w)) ∧ (¬ (w 1 10) = 0 → z_CI mX2_room [z_r 12] sh w (fun y3 w2 => (vf_n64 (FP.ddiv (FP.i2d (Int32.ofInt y3)) (FP.i2d (Int32.ofInt (w2 1 10))))) ∧ Q (some (z_d (FP.ddiv (FP.i2d (Int32.ofInt y3)) (FP.i2d (Int32.ofInt (w2 1 10)))))) (sh, w2))))) : z_Sem mX8_meanRoom (sh.length, 0) 0 [(0, z_r 0)] [] (sh, w) Q := by
  refine z_aload_n 0 dX8_meanRoom_0 rfl rfl ?_
  refine z_getR (r := 1) zfRX8_12 dX8_meanRoom_1 hh0.1 rfl ?_
  refine z_getI (ki := 10) zfRX8_102 dX8_meanRoom_4 hh0.2.1.1 rfl rfl ?_
  refine z_if_ne (tgt := 14) dX8_meanRoom_7 (by decide) (fun c1 => ?_) (fun c1 => ?_)
  · replace h := h.2 c1
    refine z_aload_n 0 dX8_meanRoom_14 rfl rfl ?_
    refine z_getR (r := 12) zfRX8_19 dX8_meanRoom_15 hh0.1 rfl ?_
    refine z_callV (As := []) (rest := []) zmX2_room znX2_room zsX2_room (show z_Cl[2]? = some (RX2, TX2, 7) from rfl) zlRX8_214 ⟨Nat.le_of_ble_eq_true rfl, Nat.le_of_ble_eq_true rfl⟩ dX8_meanRoom_18 hh0.2.2.1.1 rfl rfl z_a0 (Nat.le_of_ble_eq_true rfl) (Nat.le_of_ble_eq_true rfl) ⟨rfl, rfl⟩ (z_CIm h ?_)
    intro y3 w2 h
    show z_Sem mX8_meanRoom (sh.length, 0) 21 [(0, z_r 0)] [z_i y3] (sh, w2) Q
    refine z_i2d dX8_meanRoom_21 ?_
    refine z_aload_n 0 dX8_meanRoom_22 rfl rfl ?_
    refine z_getR (r := 1) zfRX8_12 dX8_meanRoom_23 hh0.1 rfl ?_
    refine z_getI (ki := 10) zfRX8_102 dX8_meanRoom_26 hh0.2.1.1 rfl rfl ?_
    refine z_i2d dX8_meanRoom_29 ?_
    obtain ⟨q4, h⟩ := h
    refine z_ddiv dX8_meanRoom_30 q4 ?_
    exact z_ret (v := some (z_d (FP.ddiv (FP.i2d (Int32.ofInt y3)) (FP.i2d (Int32.ofInt (w2 1 10)))))) dX8_meanRoom_31 ⟨rfl, rfl⟩ rfl h
  · replace h := h.1 c1
    refine z_dconst0 dX8_meanRoom_10 ?_
    refine z_goto (tgt := 31) dX8_meanRoom_11 (by decide) ?_
    exact z_ret (v := some (z_d (FP.dconst0))) dX8_meanRoom_31 ⟨rfl, rfl⟩ rfl h
set_option maxRecDepth 100000 in
theorem t_X8_listLength {sh : List z_C} {w : Nat → Int → Int} {Q : Option z_V → z_S → Prop}  (hh0 : z_isTG sh 0) (h : z_CV mX7_writeList [z_r 159, z_r 1, z_r 12] sh w (fun w1 => Q (some (z_i (w1 159 1))) (sh, w1))) : z_Sem mX8_listLength (sh.length, 0) 0 [(0, z_r 0)] [] (sh, w) Q := by
  refine z_aload_n 0 dX8_listLength_0 rfl rfl ?_
  refine z_getR (r := 159) zfRX8_55 dX8_listLength_1 hh0.1 rfl ?_
  refine z_aload_n 0 dX8_listLength_4 rfl rfl ?_
  refine z_getR (r := 1) zfRX8_12 dX8_listLength_5 hh0.1 rfl ?_
  refine z_aload_n 0 dX8_listLength_8 rfl rfl ?_
  refine z_getR (r := 12) zfRX8_19 dX8_listLength_9 hh0.1 rfl ?_
  refine z_callV (As := [z_r 1, z_r 12]) (rest := []) zmX7_writeList znX7_writeList zsX7_writeList (show z_Cl[7]? = some (RX7, TX7, 2) from rfl) zlRX8_359 ⟨Nat.le_of_ble_eq_true rfl, Nat.le_of_ble_eq_true rfl⟩ dX8_listLength_12 hh0.2.2.2.2.2.2.2.2.1 rfl rfl (z_ar (z_ar z_a0)) (Nat.le_of_ble_eq_true rfl) (Nat.le_of_ble_eq_true rfl) ⟨rfl, rfl⟩ (z_CVm h ?_)
  intro w1 h
  show z_Sem mX8_listLength (sh.length, 0) 15 [(0, z_r 0)] [] (sh, w1) Q
  refine z_aload_n 0 dX8_listLength_15 rfl rfl ?_
  refine z_getR (r := 159) zfRX8_55 dX8_listLength_16 hh0.1 rfl ?_
  refine z_getI (ki := 1) zfRX8_363 dX8_listLength_19 hh0.2.2.2.2.2.2.2.2.1 rfl rfl ?_
  exact z_ret (v := some (z_i (w1 159 1))) dX8_listLength_22 ⟨rfl, Or.inl rfl⟩ rfl h
set_option maxRecDepth 100000 in
theorem t_X8_listByte {sh : List z_C} {w : Nat → Int → Int} {Q : Option z_V → z_S → Prop} {x1 : Int} (hh0 : z_isTG sh 0) (h : ((0 ≤ x1 → z_CV mX7_writeList [z_r 159, z_r 1, z_r 12] sh w (fun w2 => (s_X7_byteAt w2 x1) ∧ Q (some (z_i (f_X7_byteAt w2 x1))) (sh, w2))) ∧ (¬ 0 ≤ x1 → Q (some (z_i (-1))) (sh, w)))) : z_Sem mX8_listByte (sh.length, 0) 0 [(0, z_r 0), (1, z_i x1)] [] (sh, w) Q := by
  refine z_iload_n 1 dX8_listByte_0 rfl rfl ?_
  refine z_if_ge (tgt := 6) dX8_listByte_1 (by decide) (fun c1 => ?_) (fun c1 => ?_)
  · replace h := h.1 c1
    refine z_aload_n 0 dX8_listByte_6 rfl rfl ?_
    refine z_getR (r := 159) zfRX8_55 dX8_listByte_7 hh0.1 rfl ?_
    refine z_aload_n 0 dX8_listByte_10 rfl rfl ?_
    refine z_getR (r := 1) zfRX8_12 dX8_listByte_11 hh0.1 rfl ?_
    refine z_aload_n 0 dX8_listByte_14 rfl rfl ?_
    refine z_getR (r := 12) zfRX8_19 dX8_listByte_15 hh0.1 rfl ?_
    refine z_callV (As := [z_r 1, z_r 12]) (rest := []) zmX7_writeList znX7_writeList zsX7_writeList (show z_Cl[7]? = some (RX7, TX7, 2) from rfl) zlRX8_359 ⟨Nat.le_of_ble_eq_true rfl, Nat.le_of_ble_eq_true rfl⟩ dX8_listByte_18 hh0.2.2.2.2.2.2.2.2.1 rfl rfl (z_ar (z_ar z_a0)) (Nat.le_of_ble_eq_true rfl) (Nat.le_of_ble_eq_true rfl) ⟨rfl, rfl⟩ (z_CVm h ?_)
    intro w2 h
    show z_Sem mX8_listByte (sh.length, 0) 21 [(0, z_r 0), (1, z_i x1)] [] (sh, w2) Q
    refine z_aload_n 0 dX8_listByte_21 rfl rfl ?_
    refine z_getR (r := 159) zfRX8_55 dX8_listByte_22 hh0.1 rfl ?_
    refine z_iload_n 1 dX8_listByte_25 rfl rfl ?_
    obtain ⟨q3, h⟩ := h
    refine z_callV (As := [z_i x1]) (rest := []) zmX7_byteAt znX7_byteAt zsX7_byteAt (show z_Cl[7]? = some (RX7, TX7, 2) from rfl) zlRX8_364 ⟨Nat.le_of_ble_eq_true rfl, Nat.le_of_ble_eq_true rfl⟩ dX8_listByte_26 hh0.2.2.2.2.2.2.2.2.1 rfl rfl (z_ai z_a0) (Nat.le_of_ble_eq_true rfl) (Nat.le_of_ble_eq_true rfl) ⟨rfl, rfl⟩ ?_
    refine t_X7_byteAt hh0.2.2.2.2.2.2.2.2 q3 ?_
    show z_Sem mX8_listByte (sh.length, 0) 29 [(0, z_r 0), (1, z_i x1)] [z_i (f_X7_byteAt w2 x1)] (sh, w2) Q
    exact z_ret (v := some (z_i (f_X7_byteAt w2 x1))) dX8_listByte_29 ⟨rfl, Or.inl rfl⟩ rfl h
  · replace h := h.2 c1
    refine z_iconst dX8_listByte_4 (by decide) ?_
    exact z_ret (v := some (z_i (-1))) dX8_listByte_5 ⟨rfl, Or.inl rfl⟩ rfl h
set_option maxRecDepth 100000 in
theorem t_X8_setupLength {sh : List z_C} {w : Nat → Int → Int} {Q : Option z_V → z_S → Prop}  (hh0 : z_isTG sh 0) (h : z_CV mX7_writeSetup [z_r 159, z_r 1] sh w (fun w1 => Q (some (z_i (w1 159 1))) (sh, w1))) : z_Sem mX8_setupLength (sh.length, 0) 0 [(0, z_r 0)] [] (sh, w) Q := by
  refine z_aload_n 0 dX8_setupLength_0 rfl rfl ?_
  refine z_getR (r := 159) zfRX8_55 dX8_setupLength_1 hh0.1 rfl ?_
  refine z_aload_n 0 dX8_setupLength_4 rfl rfl ?_
  refine z_getR (r := 1) zfRX8_12 dX8_setupLength_5 hh0.1 rfl ?_
  refine z_callV (As := [z_r 1]) (rest := []) zmX7_writeSetup znX7_writeSetup zsX7_writeSetup (show z_Cl[7]? = some (RX7, TX7, 2) from rfl) zlRX8_367 ⟨Nat.le_of_ble_eq_true rfl, Nat.le_of_ble_eq_true rfl⟩ dX8_setupLength_8 hh0.2.2.2.2.2.2.2.2.1 rfl rfl (z_ar z_a0) (Nat.le_of_ble_eq_true rfl) (Nat.le_of_ble_eq_true rfl) ⟨rfl, rfl⟩ (z_CVm h ?_)
  intro w1 h
  show z_Sem mX8_setupLength (sh.length, 0) 11 [(0, z_r 0)] [] (sh, w1) Q
  refine z_aload_n 0 dX8_setupLength_11 rfl rfl ?_
  refine z_getR (r := 159) zfRX8_55 dX8_setupLength_12 hh0.1 rfl ?_
  refine z_getI (ki := 1) zfRX8_363 dX8_setupLength_15 hh0.2.2.2.2.2.2.2.2.1 rfl rfl ?_
  exact z_ret (v := some (z_i (w1 159 1))) dX8_setupLength_18 ⟨rfl, Or.inl rfl⟩ rfl h
set_option maxRecDepth 100000 in
theorem t_X8_setupByte {sh : List z_C} {w : Nat → Int → Int} {Q : Option z_V → z_S → Prop} {x1 : Int} (hh0 : z_isTG sh 0) (h : ((0 ≤ x1 → z_CV mX7_writeSetup [z_r 159, z_r 1] sh w (fun w2 => (s_X7_byteAt w2 x1) ∧ Q (some (z_i (f_X7_byteAt w2 x1))) (sh, w2))) ∧ (¬ 0 ≤ x1 → Q (some (z_i (-1))) (sh, w)))) : z_Sem mX8_setupByte (sh.length, 0) 0 [(0, z_r 0), (1, z_i x1)] [] (sh, w) Q := by
  refine z_iload_n 1 dX8_setupByte_0 rfl rfl ?_
  refine z_if_ge (tgt := 6) dX8_setupByte_1 (by decide) (fun c1 => ?_) (fun c1 => ?_)
  · replace h := h.1 c1
    refine z_aload_n 0 dX8_setupByte_6 rfl rfl ?_
    refine z_getR (r := 159) zfRX8_55 dX8_setupByte_7 hh0.1 rfl ?_
    refine z_aload_n 0 dX8_setupByte_10 rfl rfl ?_
    refine z_getR (r := 1) zfRX8_12 dX8_setupByte_11 hh0.1 rfl ?_
    refine z_callV (As := [z_r 1]) (rest := []) zmX7_writeSetup znX7_writeSetup zsX7_writeSetup (show z_Cl[7]? = some (RX7, TX7, 2) from rfl) zlRX8_367 ⟨Nat.le_of_ble_eq_true rfl, Nat.le_of_ble_eq_true rfl⟩ dX8_setupByte_14 hh0.2.2.2.2.2.2.2.2.1 rfl rfl (z_ar z_a0) (Nat.le_of_ble_eq_true rfl) (Nat.le_of_ble_eq_true rfl) ⟨rfl, rfl⟩ (z_CVm h ?_)
    intro w2 h
    show z_Sem mX8_setupByte (sh.length, 0) 17 [(0, z_r 0), (1, z_i x1)] [] (sh, w2) Q
    refine z_aload_n 0 dX8_setupByte_17 rfl rfl ?_
    refine z_getR (r := 159) zfRX8_55 dX8_setupByte_18 hh0.1 rfl ?_
    refine z_iload_n 1 dX8_setupByte_21 rfl rfl ?_
    obtain ⟨q3, h⟩ := h
    refine z_callV (As := [z_i x1]) (rest := []) zmX7_byteAt znX7_byteAt zsX7_byteAt (show z_Cl[7]? = some (RX7, TX7, 2) from rfl) zlRX8_364 ⟨Nat.le_of_ble_eq_true rfl, Nat.le_of_ble_eq_true rfl⟩ dX8_setupByte_22 hh0.2.2.2.2.2.2.2.2.1 rfl rfl (z_ai z_a0) (Nat.le_of_ble_eq_true rfl) (Nat.le_of_ble_eq_true rfl) ⟨rfl, rfl⟩ ?_
    refine t_X7_byteAt hh0.2.2.2.2.2.2.2.2 q3 ?_
    show z_Sem mX8_setupByte (sh.length, 0) 25 [(0, z_r 0), (1, z_i x1)] [z_i (f_X7_byteAt w2 x1)] (sh, w2) Q
    exact z_ret (v := some (z_i (f_X7_byteAt w2 x1))) dX8_setupByte_25 ⟨rfl, Or.inl rfl⟩ rfl h
  · replace h := h.2 c1
    refine z_iconst dX8_setupByte_4 (by decide) ?_
    exact z_ret (v := some (z_i (-1))) dX8_setupByte_5 ⟨rfl, Or.inl rfl⟩ rfl h
