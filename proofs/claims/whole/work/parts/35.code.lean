set_option maxRecDepth 100000 in
theorem t_X9_neededGaps {sh : List z_C} {w : Nat → Int → Int} {Q : Option z_V → z_S → Prop} {x1 : Int} (hh0 : z_isMod sh 161) (h : z_Sem mX9_neededGaps (sh.length, 0) 4 [(0, z_r 161), (1, z_i x1), (2, z_i 0), (3, z_i 0)] [] (sh, w) Q) : z_Sem mX9_neededGaps (sh.length, 0) 0 [(0, z_r 161), (1, z_i x1)] [] (sh, w) Q := by
  refine z_iconst dX9_neededGaps_0 (by decide) ?_
  refine z_istore_n (L' := [(2, z_i 0), (0, z_r 161), (1, z_i x1)]) dX9_neededGaps_1 rfl (by decide) rfl ?_
  refine z_iconst dX9_neededGaps_2 (by decide) ?_
  refine z_istore_n (L' := [(3, z_i 0), (2, z_i 0), (0, z_r 161), (1, z_i x1)]) dX9_neededGaps_3 rfl (by decide) rfl ?_
  refine z_sub (L' := [(0, z_r 161), (1, z_i x1), (2, z_i 0), (3, z_i 0)]) [2, 3, 1, 0] rfl ?_
  exact h
set_option maxRecDepth 100000 in
theorem t_X9_neededGaps_4 {sh : List z_C} {w : Nat → Int → Int} {Q : Option z_V → z_S → Prop} {x1 : Int} {x2 : Int} {x3 : Int} (hh0 : z_isMod sh 161) (h : (((w 163 2) ≤ x3 → Q (some (z_i x2)) (sh, w)) ∧ (¬ (w 163 2) ≤ x3 → (¬ x1 < 0 → (s_X9_of w x3 0) ∧ (¬ (f_X9_of w x3 0) = x1 → (s_X9_of w x3 1) ∧ True) ∧ True) ∧ ∀ y18 : Int, y18 = (if x1 < 0 then 1 else if (f_X9_of w x3 0) = x1 then 1 else if (f_X9_of w x3 1) = x1 then 1 else 0) → ((y18 = 0 → (z_R (x2 + 0)) ∧ (z_R (x3 + 1)) ∧ z_Sem mX9_neededGaps (sh.length, 0) 4 [(0, z_r 161), (1, z_i x1), (2, z_i (x2 + 0)), (3, z_i (x3 + 1))] [] (sh, w) Q) ∧ (¬ y18 = 0 → z_CI mX9_isNeeded [z_r 161, z_i x3] sh w (fun y23 w22 => (z_R (x2 + (if y23 = 0 then 0 else 1))) ∧ ∀ y29 : Int, y29 = (x2 + (if y23 = 0 then 0 else 1)) → (z_R (x3 + 1)) ∧ z_Sem mX9_neededGaps (sh.length, 0) 4 [(0, z_r 161), (1, z_i x1), (2, z_i y29), (3, z_i (x3 + 1))] [] (sh, w22) Q)))))) : z_Sem mX9_neededGaps (sh.length, 0) 4 [(0, z_r 161), (1, z_i x1), (2, z_i x2), (3, z_i x3)] [] (sh, w) Q := by
  refine z_iload_n 3 dX9_neededGaps_4 rfl rfl ?_
  refine z_aload_n 0 dX9_neededGaps_5 rfl rfl ?_
  refine z_getR (r := 163) zfRX9_17 dX9_neededGaps_6 hh0.1 rfl ?_
  refine z_iconst dX9_neededGaps_9 (by decide) ?_
  refine z_iald dX9_neededGaps_10 hh0.2.2.1 (by decide) ?_
  refine z_icmp_ge (tgt := 72) dX9_neededGaps_11 (by decide) (fun c1 => ?_) (fun c1 => ?_)
  · replace h := h.1 c1
    refine z_iload_n 2 dX9_neededGaps_72 rfl rfl ?_
    exact z_ret (v := some (z_i x2)) dX9_neededGaps_73 ⟨rfl, Or.inl rfl⟩ rfl rfl h
  · replace h := h.2 c1
    refine z_iload_n 1 dX9_neededGaps_14 rfl rfl ?_
    obtain ⟨m4, h⟩ := h
    suffices hJ2 : z_Sem mX9_neededGaps (sh.length, 0) 43 [(0, z_r 161), (1, z_i x1), (2, z_i x2), (3, z_i x3)] [z_i (if x1 < 0 then 1 else if (f_X9_of w x3 0) = x1 then 1 else if (f_X9_of w x3 1) = x1 then 1 else 0)] (sh, w) Q by
      refine z_if_lt (tgt := 38) dX9_neededGaps_15 (by decide) (fun c3 => ?_) (fun c3 => ?_)
      · skip
        refine z_iconst dX9_neededGaps_38 (by decide) ?_
        refine z_goto (tgt := 43) dX9_neededGaps_39 (by decide) ?_
        simp only [if_pos c3] at hJ2
        exact hJ2
      · skip
        have ho6 := m4 c3
        refine z_aload_n 0 dX9_neededGaps_18 rfl rfl ?_
        refine z_iload_n 3 dX9_neededGaps_19 rfl rfl ?_
        refine z_iconst dX9_neededGaps_20 (by decide) ?_
        obtain ⟨q7, ho6⟩ := ho6
        refine z_callV (As := [z_i x3, z_i 0]) (rest := []) zmX9_of znX9_of zsX9_of (show vwCl[9]? = some (RX9, TX9, 29) from rfl) zlRX9_76 ⟨Nat.le_of_ble_eq_true rfl, Nat.le_of_ble_eq_true rfl⟩ dX9_neededGaps_21 hh0.1 rfl rfl (z_ai (z_ai z_a0)) (Nat.le_of_ble_eq_true rfl) (Nat.le_of_ble_eq_true rfl) ⟨Nat.le_refl _, Nat.le_refl _⟩ ?_
        refine t_X9_of hh0 q7 ?_
        show z_Sem mX9_neededGaps (sh.length, 0) 24 [(0, z_r 161), (1, z_i x1), (2, z_i x2), (3, z_i x3)] [z_i (f_X9_of w x3 0)] (sh, w) Q
        refine z_iload_n 1 dX9_neededGaps_24 rfl rfl ?_
        obtain ⟨m10, ho6⟩ := ho6
        suffices hJ8 : z_Sem mX9_neededGaps (sh.length, 0) 43 [(0, z_r 161), (1, z_i x1), (2, z_i x2), (3, z_i x3)] [z_i (if (f_X9_of w x3 0) = x1 then 1 else if (f_X9_of w x3 1) = x1 then 1 else 0)] (sh, w) Q by
          refine z_icmp_eq (tgt := 38) dX9_neededGaps_25 (by decide) (fun c9 => ?_) (fun c9 => ?_)
          · skip
            refine z_iconst dX9_neededGaps_38 (by decide) ?_
            refine z_goto (tgt := 43) dX9_neededGaps_39 (by decide) ?_
            simp only [if_pos c9] at hJ8
            exact hJ8
          · skip
            have ho12 := m10 c9
            refine z_aload_n 0 dX9_neededGaps_28 rfl rfl ?_
            refine z_iload_n 3 dX9_neededGaps_29 rfl rfl ?_
            refine z_iconst dX9_neededGaps_30 (by decide) ?_
            obtain ⟨q13, ho12⟩ := ho12
            refine z_callV (As := [z_i x3, z_i 1]) (rest := []) zmX9_of znX9_of zsX9_of (show vwCl[9]? = some (RX9, TX9, 29) from rfl) zlRX9_76 ⟨Nat.le_of_ble_eq_true rfl, Nat.le_of_ble_eq_true rfl⟩ dX9_neededGaps_31 hh0.1 rfl rfl (z_ai (z_ai z_a0)) (Nat.le_of_ble_eq_true rfl) (Nat.le_of_ble_eq_true rfl) ⟨Nat.le_refl _, Nat.le_refl _⟩ ?_
            refine t_X9_of hh0 q13 ?_
            show z_Sem mX9_neededGaps (sh.length, 0) 34 [(0, z_r 161), (1, z_i x1), (2, z_i x2), (3, z_i x3)] [z_i (f_X9_of w x3 1)] (sh, w) Q
            refine z_iload_n 1 dX9_neededGaps_34 rfl rfl ?_
            suffices hJ14 : z_Sem mX9_neededGaps (sh.length, 0) 43 [(0, z_r 161), (1, z_i x1), (2, z_i x2), (3, z_i x3)] [z_i (if (f_X9_of w x3 1) = x1 then 1 else 0)] (sh, w) Q by
              refine z_icmp_ne (tgt := 42) dX9_neededGaps_35 (by decide) (fun c15 => ?_) (fun c15 => ?_)
              · skip
                refine z_iconst dX9_neededGaps_42 (by decide) ?_
                simp only [if_neg c15] at hJ14
                exact hJ14
              · skip
                refine z_iconst dX9_neededGaps_38 (by decide) ?_
                refine z_goto (tgt := 43) dX9_neededGaps_39 (by decide) ?_
                simp only [if_pos c15] at hJ14
                exact hJ14
            simp only [if_neg c9] at hJ8
            exact hJ8
        simp only [if_neg c3] at hJ2
        exact hJ2
    refine z_nam (fun y18 hy18 => ?_)
    replace h := h y18 hy18
    refine z_istore (L' := [(4, z_i y18), (0, z_r 161), (1, z_i x1), (2, z_i x2), (3, z_i x3)]) dX9_neededGaps_43 (by decide) rfl ?_
    refine z_iload_n 3 dX9_neededGaps_45 rfl rfl ?_
    refine z_iload 0 dX9_neededGaps_46 rfl ?_
    refine z_if_eq (tgt := 63) dX9_neededGaps_48 (by decide) (fun c19 => ?_) (fun c19 => ?_)
    · replace h := h.1 c19
      refine z_iconst dX9_neededGaps_63 (by decide) ?_
      obtain ⟨q20, h⟩ := h
      refine z_iadd dX9_neededGaps_64 q20 ?_
      refine z_istore_n (L' := [(2, z_i (x2 + 0)), (4, z_i y18), (0, z_r 161), (1, z_i x1), (3, z_i x3)]) dX9_neededGaps_65 rfl (by decide) rfl ?_
      obtain ⟨q21, h⟩ := h
      refine z_iinc (L' := [(3, z_i (x3 + 1)), (2, z_i (x2 + 0)), (4, z_i y18), (0, z_r 161), (1, z_i x1)]) 4 dX9_neededGaps_66 rfl (by decide) rfl q21 ?_
      refine z_goto (tgt := 4) dX9_neededGaps_69 (by decide) ?_
      refine z_sub (L' := [(0, z_r 161), (1, z_i x1), (2, z_i (x2 + 0)), (3, z_i (x3 + 1))]) [3, 4, 1, 0] rfl ?_
      exact h
    · replace h := h.2 c19
      refine z_aload_n 1 dX9_neededGaps_51 rfl rfl ?_
      refine z_iload_n 4 dX9_neededGaps_52 rfl rfl ?_
      refine z_callV (As := [z_i x3]) (rest := [z_i x2]) zmX9_isNeeded znX9_isNeeded zsX9_isNeeded (show vwCl[9]? = some (RX9, TX9, 29) from rfl) zlRX9_172 ⟨Nat.le_of_ble_eq_true rfl, Nat.le_of_ble_eq_true rfl⟩ dX9_neededGaps_53 hh0.1 rfl rfl (z_ai z_a0) (Nat.le_of_ble_eq_true rfl) (Nat.le_of_ble_eq_true rfl) ⟨Nat.le_refl _, Nat.le_refl _⟩ (z_CIm h ?_)
      intro y23 w22 h
      show z_Sem mX9_neededGaps (sh.length, 0) 56 [(4, z_i y18), (0, z_r 161), (1, z_i x1), (2, z_i x2), (3, z_i x3)] [z_i y23, z_i x2] (sh, w22) Q
      suffices hJ24 : z_Sem mX9_neededGaps (sh.length, 0) 64 [(0, z_r 161), (1, z_i x1), (3, z_i x3)] [z_i (if y23 = 0 then 0 else 1), z_i x2] (sh, w22) Q by
        refine z_if_eq (tgt := 63) dX9_neededGaps_56 (by decide) (fun c25 => ?_) (fun c25 => ?_)
        · skip
          refine z_iconst dX9_neededGaps_63 (by decide) ?_
          refine z_sub (L' := [(0, z_r 161), (1, z_i x1), (3, z_i x3)]) [1, 2, 4] rfl ?_
          simp only [if_pos c25] at hJ24
          exact hJ24
        · skip
          refine z_iconst dX9_neededGaps_59 (by decide) ?_
          refine z_goto (tgt := 64) dX9_neededGaps_60 (by decide) ?_
          refine z_sub (L' := [(0, z_r 161), (1, z_i x1), (3, z_i x3)]) [1, 2, 4] rfl ?_
          simp only [if_neg c25] at hJ24
          exact hJ24
      obtain ⟨q28, h⟩ := h
      refine z_iadd dX9_neededGaps_64 q28 ?_
      refine z_nam (fun y29 hy29 => ?_)
      replace h := h y29 hy29
      refine z_istore_n (L' := [(2, z_i y29), (0, z_r 161), (1, z_i x1), (3, z_i x3)]) dX9_neededGaps_65 rfl (by decide) rfl ?_
      obtain ⟨q30, h⟩ := h
      refine z_iinc (L' := [(3, z_i (x3 + 1)), (2, z_i y29), (0, z_r 161), (1, z_i x1)]) 3 dX9_neededGaps_66 rfl (by decide) rfl q30 ?_
      refine z_goto (tgt := 4) dX9_neededGaps_69 (by decide) ?_
      refine z_sub (L' := [(0, z_r 161), (1, z_i x1), (2, z_i y29), (3, z_i (x3 + 1))]) [2, 3, 1, 0] rfl ?_
      exact h
set_option maxRecDepth 100000 in
theorem t_X9_fixedEvents {sh : List z_C} {w : Nat → Int → Int} {Q : Option z_V → z_S → Prop}  (hh0 : z_isMod sh 161) (h : z_Sem mX9_fixedEvents (sh.length, 0) 4 [(0, z_r 161), (1, z_i 0), (2, z_i 0)] [] (sh, w) Q) : z_Sem mX9_fixedEvents (sh.length, 0) 0 [(0, z_r 161)] [] (sh, w) Q := by
  refine z_iconst dX9_fixedEvents_0 (by decide) ?_
  refine z_istore_n (L' := [(1, z_i 0), (0, z_r 161)]) dX9_fixedEvents_1 rfl (by decide) rfl ?_
  refine z_iconst dX9_fixedEvents_2 (by decide) ?_
  refine z_istore_n (L' := [(2, z_i 0), (1, z_i 0), (0, z_r 161)]) dX9_fixedEvents_3 rfl (by decide) rfl ?_
  refine z_sub (L' := [(0, z_r 161), (1, z_i 0), (2, z_i 0)]) [2, 1, 0] rfl ?_
  exact h
set_option maxRecDepth 100000 in
theorem t_X9_fixedEvents_4 {sh : List z_C} {w : Nat → Int → Int} {Q : Option z_V → z_S → Prop} {x1 : Int} {x2 : Int} (hh0 : z_isMod sh 161) (h : (((w 163 1) ≤ x2 → Q (some (z_i x1)) (sh, w)) ∧ (¬ (w 163 1) ≤ x2 → (s_X9_roomOf w x2) ∧ (z_R (x1 + (if (f_X9_roomOf w x2) = 0 then 1 else 0))) ∧ ∀ y8 : Int, y8 = (x1 + (if (f_X9_roomOf w x2) = 0 then 1 else 0)) → (z_R (x2 + 1)) ∧ z_Sem mX9_fixedEvents (sh.length, 0) 4 [(0, z_r 161), (1, z_i y8), (2, z_i (x2 + 1))] [] (sh, w) Q))) : z_Sem mX9_fixedEvents (sh.length, 0) 4 [(0, z_r 161), (1, z_i x1), (2, z_i x2)] [] (sh, w) Q := by
  refine z_iload_n 2 dX9_fixedEvents_4 rfl rfl ?_
  refine z_aload_n 0 dX9_fixedEvents_5 rfl rfl ?_
  refine z_getR (r := 163) zfRX9_17 dX9_fixedEvents_6 hh0.1 rfl ?_
  refine z_iconst dX9_fixedEvents_9 (by decide) ?_
  refine z_iald dX9_fixedEvents_10 hh0.2.2.1 (by decide) ?_
  refine z_icmp_ge (tgt := 36) dX9_fixedEvents_11 (by decide) (fun c1 => ?_) (fun c1 => ?_)
  · replace h := h.1 c1
    refine z_iload_n 1 dX9_fixedEvents_36 rfl rfl ?_
    exact z_ret (v := some (z_i x1)) dX9_fixedEvents_37 ⟨rfl, Or.inl rfl⟩ rfl rfl h
  · replace h := h.2 c1
    refine z_iload_n 1 dX9_fixedEvents_14 rfl rfl ?_
    refine z_aload_n 0 dX9_fixedEvents_15 rfl rfl ?_
    refine z_iload_n 2 dX9_fixedEvents_16 rfl rfl ?_
    obtain ⟨q2, h⟩ := h
    refine z_callV (As := [z_i x2]) (rest := [z_i x1]) zmX9_roomOf znX9_roomOf zsX9_roomOf (show vwCl[9]? = some (RX9, TX9, 29) from rfl) zlRX9_123 ⟨Nat.le_of_ble_eq_true rfl, Nat.le_of_ble_eq_true rfl⟩ dX9_fixedEvents_17 hh0.1 rfl rfl (z_ai z_a0) (Nat.le_of_ble_eq_true rfl) (Nat.le_of_ble_eq_true rfl) ⟨Nat.le_refl _, Nat.le_refl _⟩ ?_
    refine t_X9_roomOf hh0 q2 ?_
    show z_Sem mX9_fixedEvents (sh.length, 0) 20 [(0, z_r 161), (1, z_i x1), (2, z_i x2)] [z_i (f_X9_roomOf w x2), z_i x1] (sh, w) Q
    suffices hJ3 : z_Sem mX9_fixedEvents (sh.length, 0) 28 [(0, z_r 161), (2, z_i x2)] [z_i (if (f_X9_roomOf w x2) = 0 then 1 else 0), z_i x1] (sh, w) Q by
      refine z_if_ne (tgt := 27) dX9_fixedEvents_20 (by decide) (fun c4 => ?_) (fun c4 => ?_)
      · skip
        refine z_iconst dX9_fixedEvents_27 (by decide) ?_
        refine z_sub (L' := [(0, z_r 161), (2, z_i x2)]) [0, 2] rfl ?_
        simp only [if_neg c4] at hJ3
        exact hJ3
      · skip
        refine z_iconst dX9_fixedEvents_23 (by decide) ?_
        refine z_goto (tgt := 28) dX9_fixedEvents_24 (by decide) ?_
        refine z_sub (L' := [(0, z_r 161), (2, z_i x2)]) [0, 2] rfl ?_
        simp only [if_pos c4] at hJ3
        exact hJ3
    obtain ⟨q7, h⟩ := h
    refine z_iadd dX9_fixedEvents_28 q7 ?_
    refine z_nam (fun y8 hy8 => ?_)
    replace h := h y8 hy8
    refine z_istore_n (L' := [(1, z_i y8), (0, z_r 161), (2, z_i x2)]) dX9_fixedEvents_29 rfl (by decide) rfl ?_
    obtain ⟨q9, h⟩ := h
    refine z_iinc (L' := [(2, z_i (x2 + 1)), (1, z_i y8), (0, z_r 161)]) 2 dX9_fixedEvents_30 rfl (by decide) rfl q9 ?_
    refine z_goto (tgt := 4) dX9_fixedEvents_33 (by decide) ?_
    refine z_sub (L' := [(0, z_r 161), (1, z_i y8), (2, z_i (x2 + 1))]) [2, 1, 0] rfl ?_
    exact h
set_option maxRecDepth 100000 in
theorem t_X9_greatestEarliest {sh : List z_C} {w : Nat → Int → Int} {Q : Option z_V → z_S → Prop}  (hh0 : z_isMod sh 161) (h : z_Sem mX9_greatestEarliest (sh.length, 0) 4 [(0, z_r 161), (1, z_i 0), (2, z_i 0)] [] (sh, w) Q) : z_Sem mX9_greatestEarliest (sh.length, 0) 0 [(0, z_r 161)] [] (sh, w) Q := by
  refine z_iconst dX9_greatestEarliest_0 (by decide) ?_
  refine z_istore_n (L' := [(1, z_i 0), (0, z_r 161)]) dX9_greatestEarliest_1 rfl (by decide) rfl ?_
  refine z_iconst dX9_greatestEarliest_2 (by decide) ?_
  refine z_istore_n (L' := [(2, z_i 0), (1, z_i 0), (0, z_r 161)]) dX9_greatestEarliest_3 rfl (by decide) rfl ?_
  refine z_sub (L' := [(0, z_r 161), (1, z_i 0), (2, z_i 0)]) [2, 1, 0] rfl ?_
  exact h
set_option maxRecDepth 100000 in
theorem t_X9_greatestEarliest_4 {sh : List z_C} {w : Nat → Int → Int} {Q : Option z_V → z_S → Prop} {x1 : Int} {x2 : Int} (hh0 : z_isMod sh 161) (h : (((w 163 1) ≤ x2 → Q (some (z_i x1)) (sh, w)) ∧ (¬ (w 163 1) ≤ x2 → (s_X9_earliest w x2) ∧ (¬ (f_X9_earliest w x2) ≤ x1 → (s_X9_earliest w x2) ∧ True) ∧ ∀ y9 : Int, y9 = (if (f_X9_earliest w x2) ≤ x1 then x1 else f_X9_earliest w x2) → (z_R (x2 + 1)) ∧ z_Sem mX9_greatestEarliest (sh.length, 0) 4 [(0, z_r 161), (1, z_i y9), (2, z_i (x2 + 1))] [] (sh, w) Q))) : z_Sem mX9_greatestEarliest (sh.length, 0) 4 [(0, z_r 161), (1, z_i x1), (2, z_i x2)] [] (sh, w) Q := by
  refine z_iload_n 2 dX9_greatestEarliest_4 rfl rfl ?_
  refine z_aload_n 0 dX9_greatestEarliest_5 rfl rfl ?_
  refine z_getR (r := 163) zfRX9_17 dX9_greatestEarliest_6 hh0.1 rfl ?_
  refine z_iconst dX9_greatestEarliest_9 (by decide) ?_
  refine z_iald dX9_greatestEarliest_10 hh0.2.2.1 (by decide) ?_
  refine z_icmp_ge (tgt := 39) dX9_greatestEarliest_11 (by decide) (fun c1 => ?_) (fun c1 => ?_)
  · replace h := h.1 c1
    refine z_iload_n 1 dX9_greatestEarliest_39 rfl rfl ?_
    exact z_ret (v := some (z_i x1)) dX9_greatestEarliest_40 ⟨rfl, Or.inl rfl⟩ rfl rfl h
  · replace h := h.2 c1
    refine z_aload_n 0 dX9_greatestEarliest_14 rfl rfl ?_
    refine z_iload_n 2 dX9_greatestEarliest_15 rfl rfl ?_
    obtain ⟨q2, h⟩ := h
    refine z_callV (As := [z_i x2]) (rest := []) zmX9_earliest znX9_earliest zsX9_earliest (show vwCl[9]? = some (RX9, TX9, 29) from rfl) zlRX9_120 ⟨Nat.le_of_ble_eq_true rfl, Nat.le_of_ble_eq_true rfl⟩ dX9_greatestEarliest_16 hh0.1 rfl rfl (z_ai z_a0) (Nat.le_of_ble_eq_true rfl) (Nat.le_of_ble_eq_true rfl) ⟨Nat.le_refl _, Nat.le_refl _⟩ ?_
    refine t_X9_earliest hh0 q2 ?_
    show z_Sem mX9_greatestEarliest (sh.length, 0) 19 [(0, z_r 161), (1, z_i x1), (2, z_i x2)] [z_i (f_X9_earliest w x2)] (sh, w) Q
    refine z_iload_n 1 dX9_greatestEarliest_19 rfl rfl ?_
    obtain ⟨m5, h⟩ := h
    suffices hJ3 : z_Sem mX9_greatestEarliest (sh.length, 0) 32 [(0, z_r 161), (2, z_i x2)] [z_i (if (f_X9_earliest w x2) ≤ x1 then x1 else f_X9_earliest w x2)] (sh, w) Q by
      refine z_icmp_le (tgt := 31) dX9_greatestEarliest_20 (by decide) (fun c4 => ?_) (fun c4 => ?_)
      · skip
        refine z_iload_n 1 dX9_greatestEarliest_31 rfl rfl ?_
        refine z_sub (L' := [(0, z_r 161), (2, z_i x2)]) [0, 2] rfl ?_
        simp only [if_pos c4] at hJ3
        exact hJ3
      · skip
        have ho7 := m5 c4
        refine z_aload_n 0 dX9_greatestEarliest_23 rfl rfl ?_
        refine z_iload_n 2 dX9_greatestEarliest_24 rfl rfl ?_
        obtain ⟨q8, ho7⟩ := ho7
        refine z_callV (As := [z_i x2]) (rest := []) zmX9_earliest znX9_earliest zsX9_earliest (show vwCl[9]? = some (RX9, TX9, 29) from rfl) zlRX9_120 ⟨Nat.le_of_ble_eq_true rfl, Nat.le_of_ble_eq_true rfl⟩ dX9_greatestEarliest_25 hh0.1 rfl rfl (z_ai z_a0) (Nat.le_of_ble_eq_true rfl) (Nat.le_of_ble_eq_true rfl) ⟨Nat.le_refl _, Nat.le_refl _⟩ ?_
        refine t_X9_earliest hh0 q8 ?_
        show z_Sem mX9_greatestEarliest (sh.length, 0) 28 [(0, z_r 161), (1, z_i x1), (2, z_i x2)] [z_i (f_X9_earliest w x2)] (sh, w) Q
        refine z_goto (tgt := 32) dX9_greatestEarliest_28 (by decide) ?_
        refine z_sub (L' := [(0, z_r 161), (2, z_i x2)]) [0, 2] rfl ?_
        simp only [if_neg c4] at hJ3
        exact hJ3
    refine z_nam (fun y9 hy9 => ?_)
    replace h := h y9 hy9
    refine z_istore_n (L' := [(1, z_i y9), (0, z_r 161), (2, z_i x2)]) dX9_greatestEarliest_32 rfl (by decide) rfl ?_
    obtain ⟨q10, h⟩ := h
    refine z_iinc (L' := [(2, z_i (x2 + 1)), (1, z_i y9), (0, z_r 161)]) 2 dX9_greatestEarliest_33 rfl (by decide) rfl q10 ?_
    refine z_goto (tgt := 4) dX9_greatestEarliest_36 (by decide) ?_
    refine z_sub (L' := [(0, z_r 161), (1, z_i y9), (2, z_i (x2 + 1))]) [2, 1, 0] rfl ?_
    exact h
set_option maxRecDepth 100000 in
theorem t_X9_value {sh : List z_C} {w : Nat → Int → Int} {Q : Option z_V → z_S → Prop} {x1 : Int} (hh0 : z_isMod sh 161) (h : z_CI mX9_lays [z_r 161] sh w (fun y2 w1 => ((x1 = 0 → ((0 : Int) ≤ x1 ∧ x1 < 264) ∧ Q (some (z_i (w1 163 x1))) (sh, w1)) ∧ (x1 = 1 → ((0 : Int) ≤ x1 ∧ x1 < 264) ∧ Q (some (z_i (w1 163 x1))) (sh, w1)) ∧ (x1 = 2 → ((0 : Int) ≤ x1 ∧ x1 < 264) ∧ Q (some (z_i (w1 163 x1))) (sh, w1)) ∧ (x1 = 3 → z_CI mX9_onGaps [z_r 161] sh w1 (fun y8 w7 => Q (some (z_i y8)) (sh, w7))) ∧ (x1 = 4 → z_CI mX9_pinned [z_r 161] sh w1 (fun y10 w9 => Q (some (z_i y10)) (sh, w9))) ∧ (x1 = 5 → Q (some (z_i (w1 161 13))) (sh, w1)) ∧ (x1 = 6 → z_CI mX9_tightGaps [z_r 161] sh w1 (fun y12 w11 => Q (some (z_i y12)) (sh, w11))) ∧ (x1 = 7 → z_CI mX9_neededGaps [z_r 161, z_i (-2)] sh w1 (fun y14 w13 => Q (some (z_i y14)) (sh, w13))) ∧ (x1 = 8 → z_CI mX9_fixedEvents [z_r 161] sh w1 (fun y16 w15 => Q (some (z_i y16)) (sh, w15))) ∧ (x1 = 9 → z_CI mX9_greatestEarliest [z_r 161] sh w1 (fun y18 w17 => Q (some (z_i y18)) (sh, w17))) ∧ (x1 = 10 → z_CI mX9_allRoom [z_r 161] sh w1 (fun y20 w19 => Q (some (z_i y20)) (sh, w19))) ∧ (x1 = 11 → Q (some (z_i (w1 163 143))) (sh, w1)) ∧ (x1 = 12 → Q (some (z_i (w1 161 8))) (sh, w1)) ∧ (x1 < 0 ∨ 12 < x1 → Q (some (z_i (-1))) (sh, w1))))) : z_Sem mX9_value (sh.length, 0) 0 [(0, z_r 161), (1, z_i x1)] [] (sh, w) Q := by
  refine z_aload_n 0 dX9_value_0 rfl rfl ?_
  refine z_callV (As := []) (rest := []) zmX9_lays znX9_lays zsX9_lays (show vwCl[9]? = some (RX9, TX9, 29) from rfl) zlRX9_126 ⟨Nat.le_of_ble_eq_true rfl, Nat.le_of_ble_eq_true rfl⟩ dX9_value_1 hh0.1 rfl rfl z_a0 (Nat.le_of_ble_eq_true rfl) (Nat.le_of_ble_eq_true rfl) ⟨Nat.le_refl _, Nat.le_refl _⟩ (z_CIm h ?_)
  intro y2 w1 h
  show z_Sem mX9_value (sh.length, 0) 4 [(0, z_r 161), (1, z_i x1)] [z_i y2] (sh, w1) Q
  refine z_istore_n (L' := [(2, z_i y2), (0, z_r 161), (1, z_i x1)]) dX9_value_4 rfl (by decide) rfl ?_
  refine z_iload_n 2 dX9_value_5 rfl rfl ?_
  refine z_tab (tgd := 135) dX9_value_6 (by decide) (fun c3a c3b => ?_) (fun c3 => ?_)
  · rcases (show x1 = 0 ∨ x1 = 1 ∨ x1 = 2 ∨ x1 = 3 ∨ x1 = 4 ∨ x1 = 5 ∨ x1 = 6 ∨ x1 = 7 ∨ x1 = 8 ∨ x1 = 9 ∨ x1 = 10 ∨ x1 = 11 ∨ x1 = 12 by omega) with c3 | c3 | c3 | c3 | c3 | c3 | c3 | c3 | c3 | c3 | c3 | c3 | c3
    · replace h := h.1 c3
      refine ⟨66, 72, by rw [c3]; rfl, by decide, ?_⟩
      refine z_aload_n 1 dX9_value_72 rfl rfl ?_
      refine z_getR (r := 163) zfRX9_17 dX9_value_73 hh0.1 rfl ?_
      refine z_iload_n 2 dX9_value_76 rfl rfl ?_
      obtain ⟨q4, h⟩ := h
      refine z_iald dX9_value_77 hh0.2.2.1 q4 ?_
      exact z_ret (v := some (z_i (w1 163 x1))) dX9_value_78 ⟨rfl, Or.inl rfl⟩ rfl rfl h
    · replace h := h.2.1 c3
      refine ⟨66, 72, by rw [c3]; rfl, by decide, ?_⟩
      refine z_aload_n 1 dX9_value_72 rfl rfl ?_
      refine z_getR (r := 163) zfRX9_17 dX9_value_73 hh0.1 rfl ?_
      refine z_iload_n 2 dX9_value_76 rfl rfl ?_
      obtain ⟨q5, h⟩ := h
      refine z_iald dX9_value_77 hh0.2.2.1 q5 ?_
      exact z_ret (v := some (z_i (w1 163 x1))) dX9_value_78 ⟨rfl, Or.inl rfl⟩ rfl rfl h
    · replace h := h.2.2.1 c3
      refine ⟨66, 72, by rw [c3]; rfl, by decide, ?_⟩
      refine z_aload_n 1 dX9_value_72 rfl rfl ?_
      refine z_getR (r := 163) zfRX9_17 dX9_value_73 hh0.1 rfl ?_
      refine z_iload_n 2 dX9_value_76 rfl rfl ?_
      obtain ⟨q6, h⟩ := h
      refine z_iald dX9_value_77 hh0.2.2.1 q6 ?_
      exact z_ret (v := some (z_i (w1 163 x1))) dX9_value_78 ⟨rfl, Or.inl rfl⟩ rfl rfl h
    · replace h := h.2.2.2.1 c3
      refine ⟨73, 79, by rw [c3]; rfl, by decide, ?_⟩
      refine z_aload_n 1 dX9_value_79 rfl rfl ?_
      refine z_callV (As := []) (rest := []) zmX9_onGaps znX9_onGaps zsX9_onGaps (show vwCl[9]? = some (RX9, TX9, 29) from rfl) zlRX9_254 ⟨Nat.le_of_ble_eq_true rfl, Nat.le_of_ble_eq_true rfl⟩ dX9_value_80 hh0.1 rfl rfl z_a0 (Nat.le_of_ble_eq_true rfl) (Nat.le_of_ble_eq_true rfl) ⟨Nat.le_refl _, Nat.le_refl _⟩ (z_CIm h ?_)
      intro y8 w7 h
      show z_Sem mX9_value (sh.length, 0) 83 [(2, z_i y2), (0, z_r 161), (1, z_i x1)] [z_i y8] (sh, w7) Q
      exact z_ret (v := some (z_i y8)) dX9_value_83 ⟨rfl, Or.inl rfl⟩ rfl rfl h
    · replace h := h.2.2.2.2.1 c3
      refine ⟨78, 84, by rw [c3]; rfl, by decide, ?_⟩
      refine z_aload_n 1 dX9_value_84 rfl rfl ?_
      refine z_callV (As := []) (rest := []) zmX9_pinned znX9_pinned zsX9_pinned (show vwCl[9]? = some (RX9, TX9, 29) from rfl) zlRX9_165 ⟨Nat.le_of_ble_eq_true rfl, Nat.le_of_ble_eq_true rfl⟩ dX9_value_85 hh0.1 rfl rfl z_a0 (Nat.le_of_ble_eq_true rfl) (Nat.le_of_ble_eq_true rfl) ⟨Nat.le_refl _, Nat.le_refl _⟩ (z_CIm h ?_)
      intro y10 w9 h
      show z_Sem mX9_value (sh.length, 0) 88 [(2, z_i y2), (0, z_r 161), (1, z_i x1)] [z_i y10] (sh, w9) Q
      exact z_ret (v := some (z_i y10)) dX9_value_88 ⟨rfl, Or.inl rfl⟩ rfl rfl h
    · replace h := h.2.2.2.2.2.1 c3
      refine ⟨83, 89, by rw [c3]; rfl, by decide, ?_⟩
      refine z_aload_n 1 dX9_value_89 rfl rfl ?_
      refine z_getI (ki := 13) zfRX9_84 dX9_value_90 hh0.1 rfl rfl ?_
      exact z_ret (v := some (z_i (w1 161 13))) dX9_value_93 ⟨rfl, Or.inl rfl⟩ rfl rfl h
    · replace h := h.2.2.2.2.2.2.1 c3
      refine ⟨88, 94, by rw [c3]; rfl, by decide, ?_⟩
      refine z_aload_n 1 dX9_value_94 rfl rfl ?_
      refine z_callV (As := []) (rest := []) zmX9_tightGaps znX9_tightGaps zsX9_tightGaps (show vwCl[9]? = some (RX9, TX9, 29) from rfl) zlRX9_257 ⟨Nat.le_of_ble_eq_true rfl, Nat.le_of_ble_eq_true rfl⟩ dX9_value_95 hh0.1 rfl rfl z_a0 (Nat.le_of_ble_eq_true rfl) (Nat.le_of_ble_eq_true rfl) ⟨Nat.le_refl _, Nat.le_refl _⟩ (z_CIm h ?_)
      intro y12 w11 h
      show z_Sem mX9_value (sh.length, 0) 98 [(2, z_i y2), (0, z_r 161), (1, z_i x1)] [z_i y12] (sh, w11) Q
      exact z_ret (v := some (z_i y12)) dX9_value_98 ⟨rfl, Or.inl rfl⟩ rfl rfl h
    · replace h := h.2.2.2.2.2.2.2.1 c3
      refine ⟨93, 99, by rw [c3]; rfl, by decide, ?_⟩
      refine z_aload_n 1 dX9_value_99 rfl rfl ?_
      refine z_bipush dX9_value_100 (by decide) (by decide) ?_
      refine z_callV (As := [z_i (-2)]) (rest := []) zmX9_neededGaps znX9_neededGaps zsX9_neededGaps (show vwCl[9]? = some (RX9, TX9, 29) from rfl) zlRX9_260 ⟨Nat.le_of_ble_eq_true rfl, Nat.le_of_ble_eq_true rfl⟩ dX9_value_102 hh0.1 rfl rfl (z_ai z_a0) (Nat.le_of_ble_eq_true rfl) (Nat.le_of_ble_eq_true rfl) ⟨Nat.le_refl _, Nat.le_refl _⟩ (z_CIm h ?_)
      intro y14 w13 h
      show z_Sem mX9_value (sh.length, 0) 105 [(2, z_i y2), (0, z_r 161), (1, z_i x1)] [z_i y14] (sh, w13) Q
      exact z_ret (v := some (z_i y14)) dX9_value_105 ⟨rfl, Or.inl rfl⟩ rfl rfl h
    · replace h := h.2.2.2.2.2.2.2.2.1 c3
      refine ⟨100, 106, by rw [c3]; rfl, by decide, ?_⟩
      refine z_aload_n 1 dX9_value_106 rfl rfl ?_
      refine z_callV (As := []) (rest := []) zmX9_fixedEvents znX9_fixedEvents zsX9_fixedEvents (show vwCl[9]? = some (RX9, TX9, 29) from rfl) zlRX9_263 ⟨Nat.le_of_ble_eq_true rfl, Nat.le_of_ble_eq_true rfl⟩ dX9_value_107 hh0.1 rfl rfl z_a0 (Nat.le_of_ble_eq_true rfl) (Nat.le_of_ble_eq_true rfl) ⟨Nat.le_refl _, Nat.le_refl _⟩ (z_CIm h ?_)
      intro y16 w15 h
      show z_Sem mX9_value (sh.length, 0) 110 [(2, z_i y2), (0, z_r 161), (1, z_i x1)] [z_i y16] (sh, w15) Q
      exact z_ret (v := some (z_i y16)) dX9_value_110 ⟨rfl, Or.inl rfl⟩ rfl rfl h
    · replace h := h.2.2.2.2.2.2.2.2.2.1 c3
      refine ⟨105, 111, by rw [c3]; rfl, by decide, ?_⟩
      refine z_aload_n 1 dX9_value_111 rfl rfl ?_
      refine z_callV (As := []) (rest := []) zmX9_greatestEarliest znX9_greatestEarliest zsX9_greatestEarliest (show vwCl[9]? = some (RX9, TX9, 29) from rfl) zlRX9_266 ⟨Nat.le_of_ble_eq_true rfl, Nat.le_of_ble_eq_true rfl⟩ dX9_value_112 hh0.1 rfl rfl z_a0 (Nat.le_of_ble_eq_true rfl) (Nat.le_of_ble_eq_true rfl) ⟨Nat.le_refl _, Nat.le_refl _⟩ (z_CIm h ?_)
      intro y18 w17 h
      show z_Sem mX9_value (sh.length, 0) 115 [(2, z_i y2), (0, z_r 161), (1, z_i x1)] [z_i y18] (sh, w17) Q
      exact z_ret (v := some (z_i y18)) dX9_value_115 ⟨rfl, Or.inl rfl⟩ rfl rfl h
    · replace h := h.2.2.2.2.2.2.2.2.2.2.1 c3
      refine ⟨110, 116, by rw [c3]; rfl, by decide, ?_⟩
      refine z_aload_n 1 dX9_value_116 rfl rfl ?_
      refine z_callV (As := []) (rest := []) zmX9_allRoom znX9_allRoom zsX9_allRoom (show vwCl[9]? = some (RX9, TX9, 29) from rfl) zlRX9_169 ⟨Nat.le_of_ble_eq_true rfl, Nat.le_of_ble_eq_true rfl⟩ dX9_value_117 hh0.1 rfl rfl z_a0 (Nat.le_of_ble_eq_true rfl) (Nat.le_of_ble_eq_true rfl) ⟨Nat.le_refl _, Nat.le_refl _⟩ (z_CIm h ?_)
      intro y20 w19 h
      show z_Sem mX9_value (sh.length, 0) 120 [(2, z_i y2), (0, z_r 161), (1, z_i x1)] [z_i y20] (sh, w19) Q
      exact z_ret (v := some (z_i y20)) dX9_value_120 ⟨rfl, Or.inl rfl⟩ rfl rfl h
    · replace h := h.2.2.2.2.2.2.2.2.2.2.2.1 c3
      refine ⟨115, 121, by rw [c3]; rfl, by decide, ?_⟩
      refine z_aload_n 1 dX9_value_121 rfl rfl ?_
      refine z_getR (r := 163) zfRX9_17 dX9_value_122 hh0.1 rfl ?_
      refine z_sipush dX9_value_125 (by decide) (by decide) ?_
      refine z_iald dX9_value_128 hh0.2.2.1 (by decide) ?_
      exact z_ret (v := some (z_i (w1 163 143))) dX9_value_129 ⟨rfl, Or.inl rfl⟩ rfl rfl h
    · replace h := h.2.2.2.2.2.2.2.2.2.2.2.2.1 c3
      refine ⟨124, 130, by rw [c3]; rfl, by decide, ?_⟩
      refine z_aload_n 1 dX9_value_130 rfl rfl ?_
      refine z_getI (ki := 8) zfRX9_62 dX9_value_131 hh0.1 rfl rfl ?_
      exact z_ret (v := some (z_i (w1 161 8))) dX9_value_134 ⟨rfl, Or.inl rfl⟩ rfl rfl h
  · replace h := h.2.2.2.2.2.2.2.2.2.2.2.2.2 c3
    refine z_iconst dX9_value_135 (by decide) ?_
    exact z_ret (v := some (z_i (-1))) dX9_value_136 ⟨rfl, Or.inl rfl⟩ rfl rfl h
set_option maxRecDepth 100000 in
theorem t_X9_lettersOf {sh : List z_C} {w : Nat → Int → Int} {Q : Option z_V → z_S → Prop} {x0 : Int}  (h : z_Sem mX9_lettersOf (sh.length, 0) 4 [(1, z_i 0), (2, z_i x0)] [] (sh, w) Q) : z_Sem mX9_lettersOf (sh.length, 0) 0 [(0, z_i x0)] [] (sh, w) Q := by
  refine z_iconst dX9_lettersOf_0 (by decide) ?_
  refine z_istore_n (L' := [(1, z_i 0), (0, z_i x0)]) dX9_lettersOf_1 rfl (by decide) rfl ?_
  refine z_iload_n 1 dX9_lettersOf_2 rfl rfl ?_
  refine z_istore_n (L' := [(2, z_i x0), (1, z_i 0), (0, z_i x0)]) dX9_lettersOf_3 rfl (by decide) rfl ?_
  refine z_sub (L' := [(1, z_i 0), (2, z_i x0)]) [1, 0] rfl ?_
  exact h
set_option maxRecDepth 100000 in
theorem t_X9_lettersOf_4 {sh : List z_C} {w : Nat → Int → Int} {Q : Option z_V → z_S → Prop} {x1 : Int} {x2 : Int}  (h : ((x2 ≤ 0 → Q (some (z_i x1)) (sh, w)) ∧ (¬ x2 ≤ 0 → (z_R (x1 + 1)) ∧ z_Sem mX9_lettersOf (sh.length, 0) 4 [(1, z_i (x1 + 1)), (2, z_i (z_shr x2 5))] [] (sh, w) Q))) : z_Sem mX9_lettersOf (sh.length, 0) 4 [(1, z_i x1), (2, z_i x2)] [] (sh, w) Q := by
  refine z_iload_n 1 dX9_lettersOf_4 rfl rfl ?_
  refine z_if_le (tgt := 18) dX9_lettersOf_5 (by decide) (fun c1 => ?_) (fun c1 => ?_)
  · replace h := h.1 c1
    refine z_iload_n 0 dX9_lettersOf_18 rfl rfl ?_
    exact z_ret (v := some (z_i x1)) dX9_lettersOf_19 ⟨rfl, Or.inl rfl⟩ rfl rfl h
  · replace h := h.2 c1
    obtain ⟨q2, h⟩ := h
    refine z_iinc (L' := [(1, z_i (x1 + 1)), (2, z_i x2)]) 0 dX9_lettersOf_8 rfl (by decide) rfl q2 ?_
    refine z_iload_n 1 dX9_lettersOf_11 rfl rfl ?_
    refine z_iconst dX9_lettersOf_12 (by decide) ?_
    refine z_ishr dX9_lettersOf_13 ?_
    refine z_istore_n (L' := [(2, z_i (z_shr x2 5)), (1, z_i (x1 + 1))]) dX9_lettersOf_14 rfl (by decide) rfl ?_
    refine z_goto (tgt := 4) dX9_lettersOf_15 (by decide) ?_
    refine z_sub (L' := [(1, z_i (x1 + 1)), (2, z_i (z_shr x2 5))]) [1, 0] rfl ?_
    exact h
set_option maxRecDepth 100000 in
theorem t_X9_letterOf {sh : List z_C} {w : Nat → Int → Int} {Q : Option z_V → z_S → Prop} {x0 : Int} {x1 : Int}  (h : z_CI mX9_lettersOf [z_i x0] sh w (fun y2 w1 => (z_R (y2 - 1)) ∧ (z_R ((y2 - 1) - x1)) ∧ (z_R (5 * ((y2 - 1) - x1))) ∧ Q (some (z_i (z_and (z_shr x0 (5 * ((y2 - 1) - x1))) 31))) (sh, w1))) : z_Sem mX9_letterOf (sh.length, 0) 0 [(0, z_i x0), (1, z_i x1)] [] (sh, w) Q := by
  refine z_iload_n 0 dX9_letterOf_0 rfl rfl ?_
  refine z_iconst dX9_letterOf_1 (by decide) ?_
  refine z_iload_n 0 dX9_letterOf_2 rfl rfl ?_
  refine z_callS (As := [z_i x0]) (rest := [z_i 5, z_i x0]) zmX9_lettersOf ztX9_lettersOf zlRX9_269 ⟨Nat.le_of_ble_eq_true rfl, Nat.le_of_ble_eq_true rfl⟩ dX9_letterOf_3 rfl rfl (z_ai z_a0) (Nat.le_of_ble_eq_true rfl) (Nat.le_of_ble_eq_true rfl) ⟨Nat.le_refl _, Nat.le_refl _⟩ (z_CIm h ?_)
  intro y2 w1 h
  show z_Sem mX9_letterOf (sh.length, 0) 6 [(0, z_i x0), (1, z_i x1)] [z_i y2, z_i 5, z_i x0] (sh, w1) Q
  refine z_iconst dX9_letterOf_6 (by decide) ?_
  obtain ⟨q3, h⟩ := h
  refine z_isub dX9_letterOf_7 q3 ?_
  refine z_iload_n 1 dX9_letterOf_8 rfl rfl ?_
  obtain ⟨q4, h⟩ := h
  refine z_isub dX9_letterOf_9 q4 ?_
  obtain ⟨q5, h⟩ := h
  refine z_imul dX9_letterOf_10 q5 ?_
  refine z_ishr dX9_letterOf_11 ?_
  refine z_bipush dX9_letterOf_12 (by decide) (by decide) ?_
  refine z_iand dX9_letterOf_14 ?_
  exact z_ret (v := some (z_i (z_and (z_shr x0 (5 * ((y2 - 1) - x1))) 31))) dX9_letterOf_15 ⟨rfl, Or.inl rfl⟩ rfl rfl h
set_option maxRecDepth 100000 in
theorem t_X9_letter {sh : List z_C} {w : Nat → Int → Int} {Q : Option z_V → z_S → Prop} {x1 : Int} {x2 : Int} (hh0 : z_isMod sh 161) (h : (s_X9_isEvent w x1) ∧ (((f_X9_isEvent w x1) = 0 → Q (some (z_i (-1))) (sh, w)) ∧ (¬ (f_X9_isEvent w x1) = 0 → ((0 ≤ x2 → (z_R (3 + x1)) ∧ ((0 : Int) ≤ (3 + x1) ∧ (3 + x1) < 264) ∧ ∀ y6 : Int, y6 = (w 163 (3 + x1)) → z_CI mX9_lettersOf [z_i y6] sh w (fun y8 w7 => ((y8 ≤ x2 → Q (some (z_i (-2))) (sh, w7)) ∧ (¬ y8 ≤ x2 → z_CI mX9_letterOf [z_i y6, z_i x2] sh w7 (fun y11 w10 => Q (some (z_i y11)) (sh, w10)))))) ∧ (¬ 0 ≤ x2 → Q (some (z_i (-1))) (sh, w)))))) : z_Sem mX9_letter (sh.length, 0) 0 [(0, z_r 161), (1, z_i x1), (2, z_i x2)] [] (sh, w) Q := by
  refine z_aload_n 0 dX9_letter_0 rfl rfl ?_
  refine z_iload_n 1 dX9_letter_1 rfl rfl ?_
  obtain ⟨q1, h⟩ := h
  refine z_callV (As := [z_i x1]) (rest := []) zmX9_isEvent znX9_isEvent zsX9_isEvent (show vwCl[9]? = some (RX9, TX9, 29) from rfl) zlRX9_80 ⟨Nat.le_of_ble_eq_true rfl, Nat.le_of_ble_eq_true rfl⟩ dX9_letter_2 hh0.1 rfl rfl (z_ai z_a0) (Nat.le_of_ble_eq_true rfl) (Nat.le_of_ble_eq_true rfl) ⟨Nat.le_refl _, Nat.le_refl _⟩ ?_
  refine t_X9_isEvent hh0 q1 ?_
  show z_Sem mX9_letter (sh.length, 0) 5 [(0, z_r 161), (1, z_i x1), (2, z_i x2)] [z_i (f_X9_isEvent w x1)] (sh, w) Q
  refine z_if_eq (tgt := 12) dX9_letter_5 (by decide) (fun c2 => ?_) (fun c2 => ?_)
  · replace h := h.1 c2
    refine z_iconst dX9_letter_12 (by decide) ?_
    exact z_ret (v := some (z_i (-1))) dX9_letter_13 ⟨rfl, Or.inl rfl⟩ rfl rfl h
  · replace h := h.2 c2
    refine z_iload_n 2 dX9_letter_8 rfl rfl ?_
    refine z_if_ge (tgt := 14) dX9_letter_9 (by decide) (fun c3 => ?_) (fun c3 => ?_)
    · replace h := h.1 c3
      refine z_aload_n 0 dX9_letter_14 rfl rfl ?_
      refine z_getR (r := 163) zfRX9_17 dX9_letter_15 hh0.1 rfl ?_
      refine z_iconst dX9_letter_18 (by decide) ?_
      refine z_iload_n 1 dX9_letter_19 rfl rfl ?_
      obtain ⟨q4, h⟩ := h
      refine z_iadd dX9_letter_20 q4 ?_
      obtain ⟨q5, h⟩ := h
      refine z_iald dX9_letter_21 hh0.2.2.1 q5 ?_
      refine z_nam (fun y6 hy6 => ?_)
      replace h := h y6 hy6
      refine z_istore_n (L' := [(3, z_i y6), (0, z_r 161), (1, z_i x1), (2, z_i x2)]) dX9_letter_22 rfl (by decide) rfl ?_
      refine z_iload_n 3 dX9_letter_23 rfl rfl ?_
      refine z_iload_n 0 dX9_letter_24 rfl rfl ?_
      refine z_callS (As := [z_i y6]) (rest := [z_i x2]) zmX9_lettersOf ztX9_lettersOf zlRX9_269 ⟨Nat.le_of_ble_eq_true rfl, Nat.le_of_ble_eq_true rfl⟩ dX9_letter_25 rfl rfl (z_ai z_a0) (Nat.le_of_ble_eq_true rfl) (Nat.le_of_ble_eq_true rfl) ⟨Nat.le_refl _, Nat.le_refl _⟩ (z_CIm h ?_)
      intro y8 w7 h
      show z_Sem mX9_letter (sh.length, 0) 28 [(3, z_i y6), (0, z_r 161), (1, z_i x1), (2, z_i x2)] [z_i y8, z_i x2] (sh, w7) Q
      refine z_icmp_ge (tgt := 39) dX9_letter_28 (by decide) (fun c9 => ?_) (fun c9 => ?_)
      · replace h := h.1 c9
        refine z_bipush dX9_letter_39 (by decide) (by decide) ?_
        exact z_ret (v := some (z_i (-2))) dX9_letter_41 ⟨rfl, Or.inl rfl⟩ rfl rfl h
      · replace h := h.2 c9
        refine z_iload_n 0 dX9_letter_31 rfl rfl ?_
        refine z_iload_n 3 dX9_letter_32 rfl rfl ?_
        refine z_callS (As := [z_i y6, z_i x2]) (rest := []) zmX9_letterOf ztX9_letterOf zlRX9_272 ⟨Nat.le_of_ble_eq_true rfl, Nat.le_of_ble_eq_true rfl⟩ dX9_letter_33 rfl rfl (z_ai (z_ai z_a0)) (Nat.le_of_ble_eq_true rfl) (Nat.le_of_ble_eq_true rfl) ⟨Nat.le_refl _, Nat.le_refl _⟩ (z_CIm h ?_)
        intro y11 w10 h
        show z_Sem mX9_letter (sh.length, 0) 36 [(3, z_i y6), (0, z_r 161), (1, z_i x1), (2, z_i x2)] [z_i y11] (sh, w10) Q
        refine z_goto (tgt := 41) dX9_letter_36 (by decide) ?_
        exact z_ret (v := some (z_i y11)) dX9_letter_41 ⟨rfl, Or.inl rfl⟩ rfl rfl h
    · replace h := h.2 c3
      refine z_iconst dX9_letter_12 (by decide) ?_
      exact z_ret (v := some (z_i (-1))) dX9_letter_13 ⟨rfl, Or.inl rfl⟩ rfl rfl h
set_option maxRecDepth 100000 in
theorem t_X9_gap {sh : List z_C} {w : Nat → Int → Int} {Q : Option z_V → z_S → Prop} {x1 : Int} {x2 : Int} (hh0 : z_isMod sh 161) (h : (s_X9_isGap w x1) ∧ (((f_X9_isGap w x1) = 0 → Q (some (z_i (-1))) (sh, w)) ∧ (¬ (f_X9_isGap w x1) = 0 → z_CI mX9_lays [z_r 161] sh w (fun y4 w3 => ((x2 = 0 → (s_X9_of w3 x1 x2) ∧ Q (some (z_i (f_X9_of w3 x1 x2))) (sh, w3)) ∧ (x2 = 1 → (s_X9_of w3 x1 x2) ∧ Q (some (z_i (f_X9_of w3 x1 x2))) (sh, w3)) ∧ (x2 = 2 → (s_X9_of w3 x1 x2) ∧ Q (some (z_i (f_X9_of w3 x1 x2))) (sh, w3)) ∧ (x2 = 3 → (s_X9_of w3 x1 x2) ∧ Q (some (z_i (f_X9_of w3 x1 x2))) (sh, w3)) ∧ (x2 = 4 → (s_X9_of w3 x1 x2) ∧ Q (some (z_i (f_X9_of w3 x1 x2))) (sh, w3)) ∧ (x2 = 5 → (s_X9_isTight w3 x1) ∧ Q (some (z_i (if (f_X9_isTight w3 x1) = 0 then 0 else 1))) (sh, w3)) ∧ (x2 = 6 → z_CI mX9_isNeeded [z_r 161, z_i x1] sh w3 (fun y17 w16 => Q (some (z_i (if y17 = 0 then 0 else 1))) (sh, w16))) ∧ (x2 = 7 → (s_X9_isOn w3 x1) ∧ (¬ (f_X9_isOn w3 x1) = 0 → (s_X9_lengthOf w3 x1) ∧ (s_X9_fromOf w3 x1) ∧ (s_X9_toOf w3 x1) ∧ (s_X9_boundOf w3 (f_X9_fromOf w3 x1) (f_X9_toOf w3 x1)) ∧ (z_R ((f_X9_lengthOf w3 x1) - (f_X9_boundOf w3 (f_X9_fromOf w3 x1) (f_X9_toOf w3 x1)))) ∧ True) ∧ Q (some (z_i (if (f_X9_isOn w3 x1) = 0 then 0 else (f_X9_lengthOf w3 x1) - (f_X9_boundOf w3 (f_X9_fromOf w3 x1) (f_X9_toOf w3 x1))))) (sh, w3)) ∧ (x2 < 0 ∨ 7 < x2 → Q (some (z_i (-1))) (sh, w3))))))) : z_Sem mX9_gap (sh.length, 0) 0 [(0, z_r 161), (1, z_i x1), (2, z_i x2)] [] (sh, w) Q := by
  refine z_aload_n 0 dX9_gap_0 rfl rfl ?_
  refine z_iload_n 1 dX9_gap_1 rfl rfl ?_
  obtain ⟨q1, h⟩ := h
  refine z_callV (As := [z_i x1]) (rest := []) zmX9_isGap znX9_isGap zsX9_isGap (show vwCl[9]? = some (RX9, TX9, 29) from rfl) zlRX9_154 ⟨Nat.le_of_ble_eq_true rfl, Nat.le_of_ble_eq_true rfl⟩ dX9_gap_2 hh0.1 rfl rfl (z_ai z_a0) (Nat.le_of_ble_eq_true rfl) (Nat.le_of_ble_eq_true rfl) ⟨Nat.le_refl _, Nat.le_refl _⟩ ?_
  refine t_X9_isGap hh0 q1 ?_
  show z_Sem mX9_gap (sh.length, 0) 5 [(0, z_r 161), (1, z_i x1), (2, z_i x2)] [z_i (f_X9_isGap w x1)] (sh, w) Q
  refine z_if_ne (tgt := 10) dX9_gap_5 (by decide) (fun c2 => ?_) (fun c2 => ?_)
  · replace h := h.2 c2
    refine z_aload_n 0 dX9_gap_10 rfl rfl ?_
    refine z_callV (As := []) (rest := []) zmX9_lays znX9_lays zsX9_lays (show vwCl[9]? = some (RX9, TX9, 29) from rfl) zlRX9_126 ⟨Nat.le_of_ble_eq_true rfl, Nat.le_of_ble_eq_true rfl⟩ dX9_gap_11 hh0.1 rfl rfl z_a0 (Nat.le_of_ble_eq_true rfl) (Nat.le_of_ble_eq_true rfl) ⟨Nat.le_refl _, Nat.le_refl _⟩ (z_CIm h ?_)
    intro y4 w3 h
    show z_Sem mX9_gap (sh.length, 0) 14 [(0, z_r 161), (1, z_i x1), (2, z_i x2)] [z_i y4] (sh, w3) Q
    refine z_istore_n (L' := [(3, z_i y4), (0, z_r 161), (1, z_i x1), (2, z_i x2)]) dX9_gap_14 rfl (by decide) rfl ?_
    refine z_iload_n 3 dX9_gap_15 rfl rfl ?_
    refine z_tab (tgd := 132) dX9_gap_16 (by decide) (fun c5a c5b => ?_) (fun c5 => ?_)
    · rcases (show x2 = 0 ∨ x2 = 1 ∨ x2 = 2 ∨ x2 = 3 ∨ x2 = 4 ∨ x2 = 5 ∨ x2 = 6 ∨ x2 = 7 by omega) with c5 | c5 | c5 | c5 | c5 | c5 | c5 | c5
      · replace h := h.1 c5
        refine ⟨48, 64, by rw [c5]; rfl, by decide, ?_⟩
        refine z_aload_n 1 dX9_gap_64 rfl rfl ?_
        refine z_iload_n 2 dX9_gap_65 rfl rfl ?_
        refine z_iload_n 3 dX9_gap_66 rfl rfl ?_
        obtain ⟨q6, h⟩ := h
        refine z_callV (As := [z_i x1, z_i x2]) (rest := []) zmX9_of znX9_of zsX9_of (show vwCl[9]? = some (RX9, TX9, 29) from rfl) zlRX9_76 ⟨Nat.le_of_ble_eq_true rfl, Nat.le_of_ble_eq_true rfl⟩ dX9_gap_67 hh0.1 rfl rfl (z_ai (z_ai z_a0)) (Nat.le_of_ble_eq_true rfl) (Nat.le_of_ble_eq_true rfl) ⟨Nat.le_refl _, Nat.le_refl _⟩ ?_
        refine t_X9_of hh0 q6 ?_
        show z_Sem mX9_gap (sh.length, 0) 70 [(3, z_i y4), (0, z_r 161), (1, z_i x1), (2, z_i x2)] [z_i (f_X9_of w3 x1 x2)] (sh, w3) Q
        exact z_ret (v := some (z_i (f_X9_of w3 x1 x2))) dX9_gap_70 ⟨rfl, Or.inl rfl⟩ rfl rfl h
      · replace h := h.2.1 c5
        refine ⟨48, 64, by rw [c5]; rfl, by decide, ?_⟩
        refine z_aload_n 1 dX9_gap_64 rfl rfl ?_
        refine z_iload_n 2 dX9_gap_65 rfl rfl ?_
        refine z_iload_n 3 dX9_gap_66 rfl rfl ?_
        obtain ⟨q7, h⟩ := h
        refine z_callV (As := [z_i x1, z_i x2]) (rest := []) zmX9_of znX9_of zsX9_of (show vwCl[9]? = some (RX9, TX9, 29) from rfl) zlRX9_76 ⟨Nat.le_of_ble_eq_true rfl, Nat.le_of_ble_eq_true rfl⟩ dX9_gap_67 hh0.1 rfl rfl (z_ai (z_ai z_a0)) (Nat.le_of_ble_eq_true rfl) (Nat.le_of_ble_eq_true rfl) ⟨Nat.le_refl _, Nat.le_refl _⟩ ?_
        refine t_X9_of hh0 q7 ?_
        show z_Sem mX9_gap (sh.length, 0) 70 [(3, z_i y4), (0, z_r 161), (1, z_i x1), (2, z_i x2)] [z_i (f_X9_of w3 x1 x2)] (sh, w3) Q
        exact z_ret (v := some (z_i (f_X9_of w3 x1 x2))) dX9_gap_70 ⟨rfl, Or.inl rfl⟩ rfl rfl h
      · replace h := h.2.2.1 c5
        refine ⟨48, 64, by rw [c5]; rfl, by decide, ?_⟩
        refine z_aload_n 1 dX9_gap_64 rfl rfl ?_
        refine z_iload_n 2 dX9_gap_65 rfl rfl ?_
        refine z_iload_n 3 dX9_gap_66 rfl rfl ?_
        obtain ⟨q8, h⟩ := h
        refine z_callV (As := [z_i x1, z_i x2]) (rest := []) zmX9_of znX9_of zsX9_of (show vwCl[9]? = some (RX9, TX9, 29) from rfl) zlRX9_76 ⟨Nat.le_of_ble_eq_true rfl, Nat.le_of_ble_eq_true rfl⟩ dX9_gap_67 hh0.1 rfl rfl (z_ai (z_ai z_a0)) (Nat.le_of_ble_eq_true rfl) (Nat.le_of_ble_eq_true rfl) ⟨Nat.le_refl _, Nat.le_refl _⟩ ?_
        refine t_X9_of hh0 q8 ?_
        show z_Sem mX9_gap (sh.length, 0) 70 [(3, z_i y4), (0, z_r 161), (1, z_i x1), (2, z_i x2)] [z_i (f_X9_of w3 x1 x2)] (sh, w3) Q
        exact z_ret (v := some (z_i (f_X9_of w3 x1 x2))) dX9_gap_70 ⟨rfl, Or.inl rfl⟩ rfl rfl h
      · replace h := h.2.2.2.1 c5
        refine ⟨48, 64, by rw [c5]; rfl, by decide, ?_⟩
        refine z_aload_n 1 dX9_gap_64 rfl rfl ?_
        refine z_iload_n 2 dX9_gap_65 rfl rfl ?_
        refine z_iload_n 3 dX9_gap_66 rfl rfl ?_
        obtain ⟨q9, h⟩ := h
        refine z_callV (As := [z_i x1, z_i x2]) (rest := []) zmX9_of znX9_of zsX9_of (show vwCl[9]? = some (RX9, TX9, 29) from rfl) zlRX9_76 ⟨Nat.le_of_ble_eq_true rfl, Nat.le_of_ble_eq_true rfl⟩ dX9_gap_67 hh0.1 rfl rfl (z_ai (z_ai z_a0)) (Nat.le_of_ble_eq_true rfl) (Nat.le_of_ble_eq_true rfl) ⟨Nat.le_refl _, Nat.le_refl _⟩ ?_
        refine t_X9_of hh0 q9 ?_
        show z_Sem mX9_gap (sh.length, 0) 70 [(3, z_i y4), (0, z_r 161), (1, z_i x1), (2, z_i x2)] [z_i (f_X9_of w3 x1 x2)] (sh, w3) Q
        exact z_ret (v := some (z_i (f_X9_of w3 x1 x2))) dX9_gap_70 ⟨rfl, Or.inl rfl⟩ rfl rfl h
      · replace h := h.2.2.2.2.1 c5
        refine ⟨48, 64, by rw [c5]; rfl, by decide, ?_⟩
        refine z_aload_n 1 dX9_gap_64 rfl rfl ?_
        refine z_iload_n 2 dX9_gap_65 rfl rfl ?_
        refine z_iload_n 3 dX9_gap_66 rfl rfl ?_
        obtain ⟨q10, h⟩ := h
        refine z_callV (As := [z_i x1, z_i x2]) (rest := []) zmX9_of znX9_of zsX9_of (show vwCl[9]? = some (RX9, TX9, 29) from rfl) zlRX9_76 ⟨Nat.le_of_ble_eq_true rfl, Nat.le_of_ble_eq_true rfl⟩ dX9_gap_67 hh0.1 rfl rfl (z_ai (z_ai z_a0)) (Nat.le_of_ble_eq_true rfl) (Nat.le_of_ble_eq_true rfl) ⟨Nat.le_refl _, Nat.le_refl _⟩ ?_
        refine t_X9_of hh0 q10 ?_
        show z_Sem mX9_gap (sh.length, 0) 70 [(3, z_i y4), (0, z_r 161), (1, z_i x1), (2, z_i x2)] [z_i (f_X9_of w3 x1 x2)] (sh, w3) Q
        exact z_ret (v := some (z_i (f_X9_of w3 x1 x2))) dX9_gap_70 ⟨rfl, Or.inl rfl⟩ rfl rfl h
      · replace h := h.2.2.2.2.2.1 c5
        refine ⟨55, 71, by rw [c5]; rfl, by decide, ?_⟩
        refine z_aload_n 1 dX9_gap_71 rfl rfl ?_
        refine z_iload_n 2 dX9_gap_72 rfl rfl ?_
        obtain ⟨q11, h⟩ := h
        refine z_callV (As := [z_i x1]) (rest := []) zmX9_isTight znX9_isTight zsX9_isTight (show vwCl[9]? = some (RX9, TX9, 29) from rfl) zlRX9_130 ⟨Nat.le_of_ble_eq_true rfl, Nat.le_of_ble_eq_true rfl⟩ dX9_gap_73 hh0.1 rfl rfl (z_ai z_a0) (Nat.le_of_ble_eq_true rfl) (Nat.le_of_ble_eq_true rfl) ⟨Nat.le_refl _, Nat.le_refl _⟩ ?_
        refine t_X9_isTight hh0 q11 ?_
        show z_Sem mX9_gap (sh.length, 0) 76 [(3, z_i y4), (0, z_r 161), (1, z_i x1), (2, z_i x2)] [z_i (f_X9_isTight w3 x1)] (sh, w3) Q
        suffices hJ12 : z_Sem mX9_gap (sh.length, 0) 84 [] [z_i (if (f_X9_isTight w3 x1) = 0 then 0 else 1)] (sh, w3) Q by
          refine z_if_eq (tgt := 83) dX9_gap_76 (by decide) (fun c13 => ?_) (fun c13 => ?_)
          · skip
            refine z_iconst dX9_gap_83 (by decide) ?_
            refine z_sub (L' := []) [] rfl ?_
            simp only [if_pos c13] at hJ12
            exact hJ12
          · skip
            refine z_iconst dX9_gap_79 (by decide) ?_
            refine z_goto (tgt := 84) dX9_gap_80 (by decide) ?_
            refine z_sub (L' := []) [] rfl ?_
            simp only [if_neg c13] at hJ12
            exact hJ12
        exact z_ret (v := some (z_i (if (f_X9_isTight w3 x1) = 0 then 0 else 1))) dX9_gap_84 ⟨rfl, Or.inl rfl⟩ rfl rfl h
      · replace h := h.2.2.2.2.2.2.1 c5
        refine ⟨69, 85, by rw [c5]; rfl, by decide, ?_⟩
        refine z_aload_n 1 dX9_gap_85 rfl rfl ?_
        refine z_iload_n 2 dX9_gap_86 rfl rfl ?_
        refine z_callV (As := [z_i x1]) (rest := []) zmX9_isNeeded znX9_isNeeded zsX9_isNeeded (show vwCl[9]? = some (RX9, TX9, 29) from rfl) zlRX9_172 ⟨Nat.le_of_ble_eq_true rfl, Nat.le_of_ble_eq_true rfl⟩ dX9_gap_87 hh0.1 rfl rfl (z_ai z_a0) (Nat.le_of_ble_eq_true rfl) (Nat.le_of_ble_eq_true rfl) ⟨Nat.le_refl _, Nat.le_refl _⟩ (z_CIm h ?_)
        intro y17 w16 h
        show z_Sem mX9_gap (sh.length, 0) 90 [(3, z_i y4), (0, z_r 161), (1, z_i x1), (2, z_i x2)] [z_i y17] (sh, w16) Q
        suffices hJ18 : z_Sem mX9_gap (sh.length, 0) 98 [] [z_i (if y17 = 0 then 0 else 1)] (sh, w16) Q by
          refine z_if_eq (tgt := 97) dX9_gap_90 (by decide) (fun c19 => ?_) (fun c19 => ?_)
          · skip
            refine z_iconst dX9_gap_97 (by decide) ?_
            refine z_sub (L' := []) [] rfl ?_
            simp only [if_pos c19] at hJ18
            exact hJ18
          · skip
            refine z_iconst dX9_gap_93 (by decide) ?_
            refine z_goto (tgt := 98) dX9_gap_94 (by decide) ?_
            refine z_sub (L' := []) [] rfl ?_
            simp only [if_neg c19] at hJ18
            exact hJ18
        exact z_ret (v := some (z_i (if y17 = 0 then 0 else 1))) dX9_gap_98 ⟨rfl, Or.inl rfl⟩ rfl rfl h
      · replace h := h.2.2.2.2.2.2.2.1 c5
        refine ⟨83, 99, by rw [c5]; rfl, by decide, ?_⟩
        refine z_aload_n 1 dX9_gap_99 rfl rfl ?_
        refine z_iload_n 2 dX9_gap_100 rfl rfl ?_
        obtain ⟨q22, h⟩ := h
        refine z_callV (As := [z_i x1]) (rest := []) zmX9_isOn znX9_isOn zsX9_isOn (show vwCl[9]? = some (RX9, TX9, 29) from rfl) zlRX9_87 ⟨Nat.le_of_ble_eq_true rfl, Nat.le_of_ble_eq_true rfl⟩ dX9_gap_101 hh0.1 rfl rfl (z_ai z_a0) (Nat.le_of_ble_eq_true rfl) (Nat.le_of_ble_eq_true rfl) ⟨Nat.le_refl _, Nat.le_refl _⟩ ?_
        refine t_X9_isOn hh0 q22 ?_
        show z_Sem mX9_gap (sh.length, 0) 104 [(3, z_i y4), (0, z_r 161), (1, z_i x1), (2, z_i x2)] [z_i (f_X9_isOn w3 x1)] (sh, w3) Q
        obtain ⟨m25, h⟩ := h
        suffices hJ23 : z_Sem mX9_gap (sh.length, 0) 131 [] [z_i (if (f_X9_isOn w3 x1) = 0 then 0 else (f_X9_lengthOf w3 x1) - (f_X9_boundOf w3 (f_X9_fromOf w3 x1) (f_X9_toOf w3 x1)))] (sh, w3) Q by
          refine z_if_eq (tgt := 130) dX9_gap_104 (by decide) (fun c24 => ?_) (fun c24 => ?_)
          · skip
            refine z_iconst dX9_gap_130 (by decide) ?_
            refine z_sub (L' := []) [] rfl ?_
            simp only [if_pos c24] at hJ23
            exact hJ23
          · skip
            have ho27 := m25 c24
            refine z_aload_n 1 dX9_gap_107 rfl rfl ?_
            refine z_iload_n 2 dX9_gap_108 rfl rfl ?_
            obtain ⟨q28, ho27⟩ := ho27
            refine z_callV (As := [z_i x1]) (rest := []) zmX9_lengthOf znX9_lengthOf zsX9_lengthOf (show vwCl[9]? = some (RX9, TX9, 29) from rfl) zlRX9_96 ⟨Nat.le_of_ble_eq_true rfl, Nat.le_of_ble_eq_true rfl⟩ dX9_gap_109 hh0.1 rfl rfl (z_ai z_a0) (Nat.le_of_ble_eq_true rfl) (Nat.le_of_ble_eq_true rfl) ⟨Nat.le_refl _, Nat.le_refl _⟩ ?_
            refine t_X9_lengthOf hh0 q28 ?_
            show z_Sem mX9_gap (sh.length, 0) 112 [(3, z_i y4), (0, z_r 161), (1, z_i x1), (2, z_i x2)] [z_i (f_X9_lengthOf w3 x1)] (sh, w3) Q
            refine z_aload_n 1 dX9_gap_112 rfl rfl ?_
            refine z_aload_n 1 dX9_gap_113 rfl rfl ?_
            refine z_iload_n 2 dX9_gap_114 rfl rfl ?_
            obtain ⟨q29, ho27⟩ := ho27
            refine z_callV (As := [z_i x1]) (rest := [z_r 161, z_i (f_X9_lengthOf w3 x1)]) zmX9_fromOf znX9_fromOf zsX9_fromOf (show vwCl[9]? = some (RX9, TX9, 29) from rfl) zlRX9_90 ⟨Nat.le_of_ble_eq_true rfl, Nat.le_of_ble_eq_true rfl⟩ dX9_gap_115 hh0.1 rfl rfl (z_ai z_a0) (Nat.le_of_ble_eq_true rfl) (Nat.le_of_ble_eq_true rfl) ⟨Nat.le_refl _, Nat.le_refl _⟩ ?_
            refine t_X9_fromOf hh0 q29 ?_
            show z_Sem mX9_gap (sh.length, 0) 118 [(3, z_i y4), (0, z_r 161), (1, z_i x1), (2, z_i x2)] [z_i (f_X9_fromOf w3 x1), z_r 161, z_i (f_X9_lengthOf w3 x1)] (sh, w3) Q
            refine z_aload_n 1 dX9_gap_118 rfl rfl ?_
            refine z_iload_n 2 dX9_gap_119 rfl rfl ?_
            obtain ⟨q30, ho27⟩ := ho27
            refine z_callV (As := [z_i x1]) (rest := [z_i (f_X9_fromOf w3 x1), z_r 161, z_i (f_X9_lengthOf w3 x1)]) zmX9_toOf znX9_toOf zsX9_toOf (show vwCl[9]? = some (RX9, TX9, 29) from rfl) zlRX9_93 ⟨Nat.le_of_ble_eq_true rfl, Nat.le_of_ble_eq_true rfl⟩ dX9_gap_120 hh0.1 rfl rfl (z_ai z_a0) (Nat.le_of_ble_eq_true rfl) (Nat.le_of_ble_eq_true rfl) ⟨Nat.le_refl _, Nat.le_refl _⟩ ?_
            refine t_X9_toOf hh0 q30 ?_
            show z_Sem mX9_gap (sh.length, 0) 123 [(3, z_i y4), (0, z_r 161), (1, z_i x1), (2, z_i x2)] [z_i (f_X9_toOf w3 x1), z_i (f_X9_fromOf w3 x1), z_r 161, z_i (f_X9_lengthOf w3 x1)] (sh, w3) Q
            obtain ⟨q31, ho27⟩ := ho27
            refine z_callV (As := [z_i (f_X9_fromOf w3 x1), z_i (f_X9_toOf w3 x1)]) (rest := [z_i (f_X9_lengthOf w3 x1)]) zmX9_boundOf znX9_boundOf zsX9_boundOf (show vwCl[9]? = some (RX9, TX9, 29) from rfl) zlRX9_113 ⟨Nat.le_of_ble_eq_true rfl, Nat.le_of_ble_eq_true rfl⟩ dX9_gap_123 hh0.1 rfl rfl (z_ai (z_ai z_a0)) (Nat.le_of_ble_eq_true rfl) (Nat.le_of_ble_eq_true rfl) ⟨Nat.le_refl _, Nat.le_refl _⟩ ?_
            refine t_X9_boundOf hh0 q31 ?_
            show z_Sem mX9_gap (sh.length, 0) 126 [(3, z_i y4), (0, z_r 161), (1, z_i x1), (2, z_i x2)] [z_i (f_X9_boundOf w3 (f_X9_fromOf w3 x1) (f_X9_toOf w3 x1)), z_i (f_X9_lengthOf w3 x1)] (sh, w3) Q
            obtain ⟨q32, ho27⟩ := ho27
            refine z_isub dX9_gap_126 q32 ?_
            refine z_goto (tgt := 131) dX9_gap_127 (by decide) ?_
            refine z_sub (L' := []) [] rfl ?_
            simp only [if_neg c24] at hJ23
            exact hJ23
        exact z_ret (v := some (z_i (if (f_X9_isOn w3 x1) = 0 then 0 else (f_X9_lengthOf w3 x1) - (f_X9_boundOf w3 (f_X9_fromOf w3 x1) (f_X9_toOf w3 x1))))) dX9_gap_131 ⟨rfl, Or.inl rfl⟩ rfl rfl h
    · replace h := h.2.2.2.2.2.2.2.2 c5
      refine z_iconst dX9_gap_132 (by decide) ?_
      exact z_ret (v := some (z_i (-1))) dX9_gap_133 ⟨rfl, Or.inl rfl⟩ rfl rfl h
  · replace h := h.1 c2
    refine z_iconst dX9_gap_8 (by decide) ?_
    exact z_ret (v := some (z_i (-1))) dX9_gap_9 ⟨rfl, Or.inl rfl⟩ rfl rfl h
set_option maxRecDepth 100000 in
theorem t_X9_gapsOf {sh : List z_C} {w : Nat → Int → Int} {Q : Option z_V → z_S → Prop} {x1 : Int} (hh0 : z_isMod sh 161) (h : z_Sem mX9_gapsOf (sh.length, 0) 4 [(0, z_r 161), (1, z_i x1), (2, z_i 0), (3, z_i 0)] [] (sh, w) Q) : z_Sem mX9_gapsOf (sh.length, 0) 0 [(0, z_r 161), (1, z_i x1)] [] (sh, w) Q := by
  refine z_iconst dX9_gapsOf_0 (by decide) ?_
  refine z_istore_n (L' := [(2, z_i 0), (0, z_r 161), (1, z_i x1)]) dX9_gapsOf_1 rfl (by decide) rfl ?_
  refine z_iconst dX9_gapsOf_2 (by decide) ?_
  refine z_istore_n (L' := [(3, z_i 0), (2, z_i 0), (0, z_r 161), (1, z_i x1)]) dX9_gapsOf_3 rfl (by decide) rfl ?_
  refine z_sub (L' := [(0, z_r 161), (1, z_i x1), (2, z_i 0), (3, z_i 0)]) [2, 3, 1, 0] rfl ?_
  exact h
set_option maxRecDepth 100000 in
theorem t_X9_gapsOf_4 {sh : List z_C} {w : Nat → Int → Int} {Q : Option z_V → z_S → Prop} {x1 : Int} {x2 : Int} {x3 : Int} (hh0 : z_isMod sh 161) (h : (((w 163 2) ≤ x3 → Q (some (z_i x2)) (sh, w)) ∧ (¬ (w 163 2) ≤ x3 → (s_X9_isOn w x3) ∧ (¬ (f_X9_isOn w x3) = 0 → (s_X9_of w x3 0) ∧ (¬ (f_X9_of w x3 0) = x1 → (s_X9_of w x3 1) ∧ True) ∧ True) ∧ (z_R (x2 + (if (f_X9_isOn w x3) = 0 then 0 else if (f_X9_of w x3 0) = x1 then 1 else if (f_X9_of w x3 1) = x1 then 1 else 0))) ∧ ∀ y20 : Int, y20 = (x2 + (if (f_X9_isOn w x3) = 0 then 0 else if (f_X9_of w x3 0) = x1 then 1 else if (f_X9_of w x3 1) = x1 then 1 else 0)) → (z_R (x3 + 1)) ∧ z_Sem mX9_gapsOf (sh.length, 0) 4 [(0, z_r 161), (1, z_i x1), (2, z_i y20), (3, z_i (x3 + 1))] [] (sh, w) Q))) : z_Sem mX9_gapsOf (sh.length, 0) 4 [(0, z_r 161), (1, z_i x1), (2, z_i x2), (3, z_i x3)] [] (sh, w) Q := by
  refine z_iload_n 3 dX9_gapsOf_4 rfl rfl ?_
  refine z_aload_n 0 dX9_gapsOf_5 rfl rfl ?_
  refine z_getR (r := 163) zfRX9_17 dX9_gapsOf_6 hh0.1 rfl ?_
  refine z_iconst dX9_gapsOf_9 (by decide) ?_
  refine z_iald dX9_gapsOf_10 hh0.2.2.1 (by decide) ?_
  refine z_icmp_ge (tgt := 56) dX9_gapsOf_11 (by decide) (fun c1 => ?_) (fun c1 => ?_)
  · replace h := h.1 c1
    refine z_iload_n 2 dX9_gapsOf_56 rfl rfl ?_
    exact z_ret (v := some (z_i x2)) dX9_gapsOf_57 ⟨rfl, Or.inl rfl⟩ rfl rfl h
  · replace h := h.2 c1
    refine z_iload_n 2 dX9_gapsOf_14 rfl rfl ?_
    refine z_aload_n 0 dX9_gapsOf_15 rfl rfl ?_
    refine z_iload_n 3 dX9_gapsOf_16 rfl rfl ?_
    obtain ⟨q2, h⟩ := h
    refine z_callV (As := [z_i x3]) (rest := [z_i x2]) zmX9_isOn znX9_isOn zsX9_isOn (show vwCl[9]? = some (RX9, TX9, 29) from rfl) zlRX9_87 ⟨Nat.le_of_ble_eq_true rfl, Nat.le_of_ble_eq_true rfl⟩ dX9_gapsOf_17 hh0.1 rfl rfl (z_ai z_a0) (Nat.le_of_ble_eq_true rfl) (Nat.le_of_ble_eq_true rfl) ⟨Nat.le_refl _, Nat.le_refl _⟩ ?_
    refine t_X9_isOn hh0 q2 ?_
    show z_Sem mX9_gapsOf (sh.length, 0) 20 [(0, z_r 161), (1, z_i x1), (2, z_i x2), (3, z_i x3)] [z_i (f_X9_isOn w x3), z_i x2] (sh, w) Q
    obtain ⟨m5, h⟩ := h
    suffices hJ3 : z_Sem mX9_gapsOf (sh.length, 0) 48 [(0, z_r 161), (1, z_i x1), (3, z_i x3)] [z_i (if (f_X9_isOn w x3) = 0 then 0 else if (f_X9_of w x3 0) = x1 then 1 else if (f_X9_of w x3 1) = x1 then 1 else 0), z_i x2] (sh, w) Q by
      refine z_if_eq (tgt := 47) dX9_gapsOf_20 (by decide) (fun c4 => ?_) (fun c4 => ?_)
      · skip
        refine z_iconst dX9_gapsOf_47 (by decide) ?_
        refine z_sub (L' := [(0, z_r 161), (1, z_i x1), (3, z_i x3)]) [0, 1, 3] rfl ?_
        simp only [if_pos c4] at hJ3
        exact hJ3
      · skip
        have ho7 := m5 c4
        refine z_aload_n 0 dX9_gapsOf_23 rfl rfl ?_
        refine z_iload_n 3 dX9_gapsOf_24 rfl rfl ?_
        refine z_iconst dX9_gapsOf_25 (by decide) ?_
        obtain ⟨q8, ho7⟩ := ho7
        refine z_callV (As := [z_i x3, z_i 0]) (rest := [z_i x2]) zmX9_of znX9_of zsX9_of (show vwCl[9]? = some (RX9, TX9, 29) from rfl) zlRX9_76 ⟨Nat.le_of_ble_eq_true rfl, Nat.le_of_ble_eq_true rfl⟩ dX9_gapsOf_26 hh0.1 rfl rfl (z_ai (z_ai z_a0)) (Nat.le_of_ble_eq_true rfl) (Nat.le_of_ble_eq_true rfl) ⟨Nat.le_refl _, Nat.le_refl _⟩ ?_
        refine t_X9_of hh0 q8 ?_
        show z_Sem mX9_gapsOf (sh.length, 0) 29 [(0, z_r 161), (1, z_i x1), (2, z_i x2), (3, z_i x3)] [z_i (f_X9_of w x3 0), z_i x2] (sh, w) Q
        refine z_iload_n 1 dX9_gapsOf_29 rfl rfl ?_
        obtain ⟨m11, ho7⟩ := ho7
        suffices hJ9 : z_Sem mX9_gapsOf (sh.length, 0) 48 [(0, z_r 161), (1, z_i x1), (3, z_i x3)] [z_i (if (f_X9_of w x3 0) = x1 then 1 else if (f_X9_of w x3 1) = x1 then 1 else 0), z_i x2] (sh, w) Q by
          refine z_icmp_eq (tgt := 43) dX9_gapsOf_30 (by decide) (fun c10 => ?_) (fun c10 => ?_)
          · skip
            refine z_iconst dX9_gapsOf_43 (by decide) ?_
            refine z_goto (tgt := 48) dX9_gapsOf_44 (by decide) ?_
            refine z_sub (L' := [(0, z_r 161), (1, z_i x1), (3, z_i x3)]) [0, 1, 3] rfl ?_
            simp only [if_pos c10] at hJ9
            exact hJ9
          · skip
            have ho13 := m11 c10
            refine z_aload_n 0 dX9_gapsOf_33 rfl rfl ?_
            refine z_iload_n 3 dX9_gapsOf_34 rfl rfl ?_
            refine z_iconst dX9_gapsOf_35 (by decide) ?_
            obtain ⟨q14, ho13⟩ := ho13
            refine z_callV (As := [z_i x3, z_i 1]) (rest := [z_i x2]) zmX9_of znX9_of zsX9_of (show vwCl[9]? = some (RX9, TX9, 29) from rfl) zlRX9_76 ⟨Nat.le_of_ble_eq_true rfl, Nat.le_of_ble_eq_true rfl⟩ dX9_gapsOf_36 hh0.1 rfl rfl (z_ai (z_ai z_a0)) (Nat.le_of_ble_eq_true rfl) (Nat.le_of_ble_eq_true rfl) ⟨Nat.le_refl _, Nat.le_refl _⟩ ?_
            refine t_X9_of hh0 q14 ?_
            show z_Sem mX9_gapsOf (sh.length, 0) 39 [(0, z_r 161), (1, z_i x1), (2, z_i x2), (3, z_i x3)] [z_i (f_X9_of w x3 1), z_i x2] (sh, w) Q
            refine z_iload_n 1 dX9_gapsOf_39 rfl rfl ?_
            suffices hJ15 : z_Sem mX9_gapsOf (sh.length, 0) 48 [(0, z_r 161), (1, z_i x1), (3, z_i x3)] [z_i (if (f_X9_of w x3 1) = x1 then 1 else 0), z_i x2] (sh, w) Q by
              refine z_icmp_ne (tgt := 47) dX9_gapsOf_40 (by decide) (fun c16 => ?_) (fun c16 => ?_)
              · skip
                refine z_iconst dX9_gapsOf_47 (by decide) ?_
                refine z_sub (L' := [(0, z_r 161), (1, z_i x1), (3, z_i x3)]) [0, 1, 3] rfl ?_
                simp only [if_neg c16] at hJ15
                exact hJ15
              · skip
                refine z_iconst dX9_gapsOf_43 (by decide) ?_
                refine z_goto (tgt := 48) dX9_gapsOf_44 (by decide) ?_
                refine z_sub (L' := [(0, z_r 161), (1, z_i x1), (3, z_i x3)]) [0, 1, 3] rfl ?_
                simp only [if_pos c16] at hJ15
                exact hJ15
            simp only [if_neg c10] at hJ9
            exact hJ9
        simp only [if_neg c4] at hJ3
        exact hJ3
    obtain ⟨q19, h⟩ := h
    refine z_iadd dX9_gapsOf_48 q19 ?_
    refine z_nam (fun y20 hy20 => ?_)
    replace h := h y20 hy20
    refine z_istore_n (L' := [(2, z_i y20), (0, z_r 161), (1, z_i x1), (3, z_i x3)]) dX9_gapsOf_49 rfl (by decide) rfl ?_
    obtain ⟨q21, h⟩ := h
    refine z_iinc (L' := [(3, z_i (x3 + 1)), (2, z_i y20), (0, z_r 161), (1, z_i x1)]) 3 dX9_gapsOf_50 rfl (by decide) rfl q21 ?_
    refine z_goto (tgt := 4) dX9_gapsOf_53 (by decide) ?_
    refine z_sub (L' := [(0, z_r 161), (1, z_i x1), (2, z_i y20), (3, z_i (x3 + 1))]) [2, 3, 1, 0] rfl ?_
    exact h
set_option maxRecDepth 100000 in
theorem t_X9_event {sh : List z_C} {w : Nat → Int → Int} {Q : Option z_V → z_S → Prop} {x1 : Int} {x2 : Int} (hh0 : z_isMod sh 161) (h : (s_X9_isEvent w x1) ∧ (((f_X9_isEvent w x1) = 0 → Q (some (z_i (-1))) (sh, w)) ∧ (¬ (f_X9_isEvent w x1) = 0 → z_CI mX9_lays [z_r 161] sh w (fun y4 w3 => ((x2 = 0 → (s_X9_earliest w3 x1) ∧ Q (some (z_i (f_X9_earliest w3 x1))) (sh, w3)) ∧ (x2 = 1 → (s_X9_latest w3 x1) ∧ Q (some (z_i (f_X9_latest w3 x1))) (sh, w3)) ∧ (x2 = 2 → (s_X9_roomOf w3 x1) ∧ (z_R ((f_X9_roomOf w3 x1) + 1)) ∧ Q (some (z_i ((f_X9_roomOf w3 x1) + 1))) (sh, w3)) ∧ (x2 = 3 → (s_X9_isPinned w3 x1) ∧ (¬ (f_X9_isPinned w3 x1) = 0 → (z_R (133 + x1)) ∧ ((0 : Int) ≤ (133 + x1) ∧ (133 + x1) < 264) ∧ (z_R ((w3 163 (133 + x1)) - 1)) ∧ True) ∧ Q (some (z_i (if (f_X9_isPinned w3 x1) = 0 then -2 else (w3 163 (133 + x1)) - 1))) (sh, w3)) ∧ (x2 = 4 → z_CI mX9_gapsOf [z_r 161, z_i x1] sh w3 (fun y20 w19 => Q (some (z_i y20)) (sh, w19))) ∧ (x2 < 0 ∨ 4 < x2 → Q (some (z_i (-1))) (sh, w3))))))) : z_Sem mX9_event (sh.length, 0) 0 [(0, z_r 161), (1, z_i x1), (2, z_i x2)] [] (sh, w) Q := by
  refine z_aload_n 0 dX9_event_0 rfl rfl ?_
  refine z_iload_n 1 dX9_event_1 rfl rfl ?_
  obtain ⟨q1, h⟩ := h
  refine z_callV (As := [z_i x1]) (rest := []) zmX9_isEvent znX9_isEvent zsX9_isEvent (show vwCl[9]? = some (RX9, TX9, 29) from rfl) zlRX9_80 ⟨Nat.le_of_ble_eq_true rfl, Nat.le_of_ble_eq_true rfl⟩ dX9_event_2 hh0.1 rfl rfl (z_ai z_a0) (Nat.le_of_ble_eq_true rfl) (Nat.le_of_ble_eq_true rfl) ⟨Nat.le_refl _, Nat.le_refl _⟩ ?_
  refine t_X9_isEvent hh0 q1 ?_
  show z_Sem mX9_event (sh.length, 0) 5 [(0, z_r 161), (1, z_i x1), (2, z_i x2)] [z_i (f_X9_isEvent w x1)] (sh, w) Q
  refine z_if_ne (tgt := 10) dX9_event_5 (by decide) (fun c2 => ?_) (fun c2 => ?_)
  · replace h := h.2 c2
    refine z_aload_n 0 dX9_event_10 rfl rfl ?_
    refine z_callV (As := []) (rest := []) zmX9_lays znX9_lays zsX9_lays (show vwCl[9]? = some (RX9, TX9, 29) from rfl) zlRX9_126 ⟨Nat.le_of_ble_eq_true rfl, Nat.le_of_ble_eq_true rfl⟩ dX9_event_11 hh0.1 rfl rfl z_a0 (Nat.le_of_ble_eq_true rfl) (Nat.le_of_ble_eq_true rfl) ⟨Nat.le_refl _, Nat.le_refl _⟩ (z_CIm h ?_)
    intro y4 w3 h
    show z_Sem mX9_event (sh.length, 0) 14 [(0, z_r 161), (1, z_i x1), (2, z_i x2)] [z_i y4] (sh, w3) Q
    refine z_istore_n (L' := [(3, z_i y4), (0, z_r 161), (1, z_i x1), (2, z_i x2)]) dX9_event_14 rfl (by decide) rfl ?_
    refine z_iload_n 3 dX9_event_15 rfl rfl ?_
    refine z_tab (tgd := 104) dX9_event_16 (by decide) (fun c5a c5b => ?_) (fun c5 => ?_)
    · rcases (show x2 = 0 ∨ x2 = 1 ∨ x2 = 2 ∨ x2 = 3 ∨ x2 = 4 by omega) with c5 | c5 | c5 | c5 | c5
      · replace h := h.1 c5
        refine ⟨36, 52, by rw [c5]; rfl, by decide, ?_⟩
        refine z_aload_n 1 dX9_event_52 rfl rfl ?_
        refine z_iload_n 2 dX9_event_53 rfl rfl ?_
        obtain ⟨q6, h⟩ := h
        refine z_callV (As := [z_i x1]) (rest := []) zmX9_earliest znX9_earliest zsX9_earliest (show vwCl[9]? = some (RX9, TX9, 29) from rfl) zlRX9_120 ⟨Nat.le_of_ble_eq_true rfl, Nat.le_of_ble_eq_true rfl⟩ dX9_event_54 hh0.1 rfl rfl (z_ai z_a0) (Nat.le_of_ble_eq_true rfl) (Nat.le_of_ble_eq_true rfl) ⟨Nat.le_refl _, Nat.le_refl _⟩ ?_
        refine t_X9_earliest hh0 q6 ?_
        show z_Sem mX9_event (sh.length, 0) 57 [(3, z_i y4), (0, z_r 161), (1, z_i x1), (2, z_i x2)] [z_i (f_X9_earliest w3 x1)] (sh, w3) Q
        exact z_ret (v := some (z_i (f_X9_earliest w3 x1))) dX9_event_57 ⟨rfl, Or.inl rfl⟩ rfl rfl h
      · replace h := h.2.1 c5
        refine ⟨42, 58, by rw [c5]; rfl, by decide, ?_⟩
        refine z_aload_n 1 dX9_event_58 rfl rfl ?_
        refine z_iload_n 2 dX9_event_59 rfl rfl ?_
        obtain ⟨q7, h⟩ := h
        refine z_callV (As := [z_i x1]) (rest := []) zmX9_latest znX9_latest zsX9_latest (show vwCl[9]? = some (RX9, TX9, 29) from rfl) zlRX9_117 ⟨Nat.le_of_ble_eq_true rfl, Nat.le_of_ble_eq_true rfl⟩ dX9_event_60 hh0.1 rfl rfl (z_ai z_a0) (Nat.le_of_ble_eq_true rfl) (Nat.le_of_ble_eq_true rfl) ⟨Nat.le_refl _, Nat.le_refl _⟩ ?_
        refine t_X9_latest hh0 q7 ?_
        show z_Sem mX9_event (sh.length, 0) 63 [(3, z_i y4), (0, z_r 161), (1, z_i x1), (2, z_i x2)] [z_i (f_X9_latest w3 x1)] (sh, w3) Q
        exact z_ret (v := some (z_i (f_X9_latest w3 x1))) dX9_event_63 ⟨rfl, Or.inl rfl⟩ rfl rfl h
      · replace h := h.2.2.1 c5
        refine ⟨48, 64, by rw [c5]; rfl, by decide, ?_⟩
        refine z_aload_n 1 dX9_event_64 rfl rfl ?_
        refine z_iload_n 2 dX9_event_65 rfl rfl ?_
        obtain ⟨q8, h⟩ := h
        refine z_callV (As := [z_i x1]) (rest := []) zmX9_roomOf znX9_roomOf zsX9_roomOf (show vwCl[9]? = some (RX9, TX9, 29) from rfl) zlRX9_123 ⟨Nat.le_of_ble_eq_true rfl, Nat.le_of_ble_eq_true rfl⟩ dX9_event_66 hh0.1 rfl rfl (z_ai z_a0) (Nat.le_of_ble_eq_true rfl) (Nat.le_of_ble_eq_true rfl) ⟨Nat.le_refl _, Nat.le_refl _⟩ ?_
        refine t_X9_roomOf hh0 q8 ?_
        show z_Sem mX9_event (sh.length, 0) 69 [(3, z_i y4), (0, z_r 161), (1, z_i x1), (2, z_i x2)] [z_i (f_X9_roomOf w3 x1)] (sh, w3) Q
        refine z_iconst dX9_event_69 (by decide) ?_
        obtain ⟨q9, h⟩ := h
        refine z_iadd dX9_event_70 q9 ?_
        exact z_ret (v := some (z_i ((f_X9_roomOf w3 x1) + 1))) dX9_event_71 ⟨rfl, Or.inl rfl⟩ rfl rfl h
      · replace h := h.2.2.2.1 c5
        refine ⟨56, 72, by rw [c5]; rfl, by decide, ?_⟩
        refine z_aload_n 1 dX9_event_72 rfl rfl ?_
        refine z_iload_n 2 dX9_event_73 rfl rfl ?_
        obtain ⟨q10, h⟩ := h
        refine z_callV (As := [z_i x1]) (rest := []) zmX9_isPinned znX9_isPinned zsX9_isPinned (show vwCl[9]? = some (RX9, TX9, 29) from rfl) zlRX9_103 ⟨Nat.le_of_ble_eq_true rfl, Nat.le_of_ble_eq_true rfl⟩ dX9_event_74 hh0.1 rfl rfl (z_ai z_a0) (Nat.le_of_ble_eq_true rfl) (Nat.le_of_ble_eq_true rfl) ⟨Nat.le_refl _, Nat.le_refl _⟩ ?_
        refine t_X9_isPinned hh0 q10 ?_
        show z_Sem mX9_event (sh.length, 0) 77 [(3, z_i y4), (0, z_r 161), (1, z_i x1), (2, z_i x2)] [z_i (f_X9_isPinned w3 x1)] (sh, w3) Q
        obtain ⟨m13, h⟩ := h
        suffices hJ11 : z_Sem mX9_event (sh.length, 0) 97 [] [z_i (if (f_X9_isPinned w3 x1) = 0 then -2 else (w3 163 (133 + x1)) - 1)] (sh, w3) Q by
          refine z_if_eq (tgt := 95) dX9_event_77 (by decide) (fun c12 => ?_) (fun c12 => ?_)
          · skip
            refine z_bipush dX9_event_95 (by decide) (by decide) ?_
            refine z_sub (L' := []) [] rfl ?_
            simp only [if_pos c12] at hJ11
            exact hJ11
          · skip
            have ho15 := m13 c12
            refine z_aload_n 1 dX9_event_80 rfl rfl ?_
            refine z_getR (r := 163) zfRX9_17 dX9_event_81 hh0.1 rfl ?_
            refine z_sipush dX9_event_84 (by decide) (by decide) ?_
            refine z_iload_n 2 dX9_event_87 rfl rfl ?_
            obtain ⟨q16, ho15⟩ := ho15
            refine z_iadd dX9_event_88 q16 ?_
            obtain ⟨q17, ho15⟩ := ho15
            refine z_iald dX9_event_89 hh0.2.2.1 q17 ?_
            refine z_iconst dX9_event_90 (by decide) ?_
            obtain ⟨q18, ho15⟩ := ho15
            refine z_isub dX9_event_91 q18 ?_
            refine z_goto (tgt := 97) dX9_event_92 (by decide) ?_
            refine z_sub (L' := []) [] rfl ?_
            simp only [if_neg c12] at hJ11
            exact hJ11
        exact z_ret (v := some (z_i (if (f_X9_isPinned w3 x1) = 0 then -2 else (w3 163 (133 + x1)) - 1))) dX9_event_97 ⟨rfl, Or.inl rfl⟩ rfl rfl h
      · replace h := h.2.2.2.2.1 c5
        refine ⟨82, 98, by rw [c5]; rfl, by decide, ?_⟩
        refine z_aload_n 1 dX9_event_98 rfl rfl ?_
        refine z_iload_n 2 dX9_event_99 rfl rfl ?_
        refine z_callV (As := [z_i x1]) (rest := []) zmX9_gapsOf znX9_gapsOf zsX9_gapsOf (show vwCl[9]? = some (RX9, TX9, 29) from rfl) zlRX9_275 ⟨Nat.le_of_ble_eq_true rfl, Nat.le_of_ble_eq_true rfl⟩ dX9_event_100 hh0.1 rfl rfl (z_ai z_a0) (Nat.le_of_ble_eq_true rfl) (Nat.le_of_ble_eq_true rfl) ⟨Nat.le_refl _, Nat.le_refl _⟩ (z_CIm h ?_)
        intro y20 w19 h
        show z_Sem mX9_event (sh.length, 0) 103 [(3, z_i y4), (0, z_r 161), (1, z_i x1), (2, z_i x2)] [z_i y20] (sh, w19) Q
        exact z_ret (v := some (z_i y20)) dX9_event_103 ⟨rfl, Or.inl rfl⟩ rfl rfl h
    · replace h := h.2.2.2.2.2 c5
      refine z_iconst dX9_event_104 (by decide) ?_
      exact z_ret (v := some (z_i (-1))) dX9_event_105 ⟨rfl, Or.inl rfl⟩ rfl rfl h
  · replace h := h.1 c2
    refine z_iconst dX9_event_8 (by decide) ?_
    exact z_ret (v := some (z_i (-1))) dX9_event_9 ⟨rfl, Or.inl rfl⟩ rfl rfl h
set_option maxRecDepth 100000 in
theorem t_X9_bound {sh : List z_C} {w : Nat → Int → Int} {Q : Option z_V → z_S → Prop} {x1 : Int} {x2 : Int} (hh0 : z_isMod sh 161) (h : (s_X9_isEvent w x1) ∧ (((f_X9_isEvent w x1) = 0 → Q (some (z_i (-100000))) (sh, w)) ∧ (¬ (f_X9_isEvent w x1) = 0 → (s_X9_isEvent w x2) ∧ (((f_X9_isEvent w x2) = 0 → Q (some (z_i (-100000))) (sh, w)) ∧ (¬ (f_X9_isEvent w x2) = 0 → z_CI mX9_lays [z_r 161] sh w (fun y6 w5 => (s_X9_boundOf w5 x1 x2) ∧ Q (some (z_i (f_X9_boundOf w5 x1 x2))) (sh, w5))))))) : z_Sem mX9_bound (sh.length, 0) 0 [(0, z_r 161), (1, z_i x1), (2, z_i x2)] [] (sh, w) Q := by
  refine z_aload_n 0 dX9_bound_0 rfl rfl ?_
  refine z_iload_n 1 dX9_bound_1 rfl rfl ?_
  obtain ⟨q1, h⟩ := h
  refine z_callV (As := [z_i x1]) (rest := []) zmX9_isEvent znX9_isEvent zsX9_isEvent (show vwCl[9]? = some (RX9, TX9, 29) from rfl) zlRX9_80 ⟨Nat.le_of_ble_eq_true rfl, Nat.le_of_ble_eq_true rfl⟩ dX9_bound_2 hh0.1 rfl rfl (z_ai z_a0) (Nat.le_of_ble_eq_true rfl) (Nat.le_of_ble_eq_true rfl) ⟨Nat.le_refl _, Nat.le_refl _⟩ ?_
  refine t_X9_isEvent hh0 q1 ?_
  show z_Sem mX9_bound (sh.length, 0) 5 [(0, z_r 161), (1, z_i x1), (2, z_i x2)] [z_i (f_X9_isEvent w x1)] (sh, w) Q
  refine z_if_eq (tgt := 16) dX9_bound_5 (by decide) (fun c2 => ?_) (fun c2 => ?_)
  · replace h := h.1 c2
    refine z_ldcw (n := -100000) zkRX9_278 dX9_bound_16 (by decide) (by decide) ?_
    exact z_ret (v := some (z_i (-100000))) dX9_bound_19 ⟨rfl, Or.inl rfl⟩ rfl rfl h
  · replace h := h.2 c2
    refine z_aload_n 0 dX9_bound_8 rfl rfl ?_
    refine z_iload_n 2 dX9_bound_9 rfl rfl ?_
    obtain ⟨q3, h⟩ := h
    refine z_callV (As := [z_i x2]) (rest := []) zmX9_isEvent znX9_isEvent zsX9_isEvent (show vwCl[9]? = some (RX9, TX9, 29) from rfl) zlRX9_80 ⟨Nat.le_of_ble_eq_true rfl, Nat.le_of_ble_eq_true rfl⟩ dX9_bound_10 hh0.1 rfl rfl (z_ai z_a0) (Nat.le_of_ble_eq_true rfl) (Nat.le_of_ble_eq_true rfl) ⟨Nat.le_refl _, Nat.le_refl _⟩ ?_
    refine t_X9_isEvent hh0 q3 ?_
    show z_Sem mX9_bound (sh.length, 0) 13 [(0, z_r 161), (1, z_i x1), (2, z_i x2)] [z_i (f_X9_isEvent w x2)] (sh, w) Q
    refine z_if_ne (tgt := 20) dX9_bound_13 (by decide) (fun c4 => ?_) (fun c4 => ?_)
    · replace h := h.2 c4
      refine z_aload_n 0 dX9_bound_20 rfl rfl ?_
      refine z_callV (As := []) (rest := []) zmX9_lays znX9_lays zsX9_lays (show vwCl[9]? = some (RX9, TX9, 29) from rfl) zlRX9_126 ⟨Nat.le_of_ble_eq_true rfl, Nat.le_of_ble_eq_true rfl⟩ dX9_bound_21 hh0.1 rfl rfl z_a0 (Nat.le_of_ble_eq_true rfl) (Nat.le_of_ble_eq_true rfl) ⟨Nat.le_refl _, Nat.le_refl _⟩ (z_CIm h ?_)
      intro y6 w5 h
      show z_Sem mX9_bound (sh.length, 0) 24 [(0, z_r 161), (1, z_i x1), (2, z_i x2)] [z_i y6] (sh, w5) Q
      refine z_istore_n (L' := [(3, z_i y6), (0, z_r 161), (1, z_i x1), (2, z_i x2)]) dX9_bound_24 rfl (by decide) rfl ?_
      refine z_aload_n 1 dX9_bound_25 rfl rfl ?_
      refine z_iload_n 2 dX9_bound_26 rfl rfl ?_
      refine z_iload_n 3 dX9_bound_27 rfl rfl ?_
      obtain ⟨q7, h⟩ := h
      refine z_callV (As := [z_i x1, z_i x2]) (rest := []) zmX9_boundOf znX9_boundOf zsX9_boundOf (show vwCl[9]? = some (RX9, TX9, 29) from rfl) zlRX9_113 ⟨Nat.le_of_ble_eq_true rfl, Nat.le_of_ble_eq_true rfl⟩ dX9_bound_28 hh0.1 rfl rfl (z_ai (z_ai z_a0)) (Nat.le_of_ble_eq_true rfl) (Nat.le_of_ble_eq_true rfl) ⟨Nat.le_refl _, Nat.le_refl _⟩ ?_
      refine t_X9_boundOf hh0 q7 ?_
      show z_Sem mX9_bound (sh.length, 0) 31 [(3, z_i y6), (0, z_r 161), (1, z_i x1), (2, z_i x2)] [z_i (f_X9_boundOf w5 x1 x2)] (sh, w5) Q
      exact z_ret (v := some (z_i (f_X9_boundOf w5 x1 x2))) dX9_bound_31 ⟨rfl, Or.inl rfl⟩ rfl rfl h
    · replace h := h.1 c4
      refine z_ldcw (n := -100000) zkRX9_278 dX9_bound_16 (by decide) (by decide) ?_
      exact z_ret (v := some (z_i (-100000))) dX9_bound_19 ⟨rfl, Or.inl rfl⟩ rfl rfl h
set_option maxRecDepth 100000 in
theorem t_X9_laysSums {sh : List z_C} {w : Nat → Int → Int} {Q : Option z_V → z_S → Prop} {x1 : Int} (hh0 : z_isMod sh 161) (h : z_Sem mX9_laysSums (sh.length, 0) 2 [(0, z_r 161), (1, z_i x1), (2, z_i 0)] [] (sh, w) Q) : z_Sem mX9_laysSums (sh.length, 0) 0 [(0, z_r 161), (1, z_i x1)] [] (sh, w) Q := by
  refine z_iconst dX9_laysSums_0 (by decide) ?_
  refine z_istore_n (L' := [(2, z_i 0), (0, z_r 161), (1, z_i x1)]) dX9_laysSums_1 rfl (by decide) rfl ?_
  refine z_sub (L' := [(0, z_r 161), (1, z_i x1), (2, z_i 0)]) [1, 2, 0] rfl ?_
  exact h
set_option maxRecDepth 100000 in
theorem t_X9_laysSums_2 {sh : List z_C} {w : Nat → Int → Int} {Q : Option z_V → z_S → Prop} {x1 : Int} {x2 : Int} (hh0 : z_isMod sh 161) (h : ((10 ≤ x2 → z_Sem mX9_laysSums (sh.length, 0) 29 [(0, z_r 161), (1, z_i x1), (2, z_i 0)] [] (sh, w) Q) ∧ (¬ 10 ≤ x2 → (z_R (10 * x1)) ∧ (z_R ((10 * x1) + x2)) ∧ ((0 : Int) ≤ ((10 * x1) + x2) ∧ ((10 * x1) + x2) < 120) ∧ ∀ w4 : Nat → Int → Int, w4 = z_W w 173 ((10 * x1) + x2) 1000000 → (z_R (x2 + 1)) ∧ z_Sem mX9_laysSums (sh.length, 0) 2 [(0, z_r 161), (1, z_i x1), (2, z_i (x2 + 1))] [] (sh, w4) Q))) : z_Sem mX9_laysSums (sh.length, 0) 2 [(0, z_r 161), (1, z_i x1), (2, z_i x2)] [] (sh, w) Q := by
  refine z_iload_n 2 dX9_laysSums_2 rfl rfl ?_
  refine z_bipush dX9_laysSums_3 (by decide) (by decide) ?_
  refine z_icmp_ge (tgt := 27) dX9_laysSums_5 (by decide) (fun c1 => ?_) (fun c1 => ?_)
  · replace h := h.1 c1
    refine z_iconst dX9_laysSums_27 (by decide) ?_
    refine z_istore_n (L' := [(2, z_i 0), (0, z_r 161), (1, z_i x1)]) dX9_laysSums_28 rfl (by decide) rfl ?_
    refine z_sub (L' := [(0, z_r 161), (1, z_i x1), (2, z_i 0)]) [1, 2, 0] rfl ?_
    exact h
  · replace h := h.2 c1
    refine z_aload_n 0 dX9_laysSums_8 rfl rfl ?_
    refine z_getR (r := 173) zfRX9_49 dX9_laysSums_9 hh0.1 rfl ?_
    refine z_bipush dX9_laysSums_12 (by decide) (by decide) ?_
    refine z_iload_n 1 dX9_laysSums_14 rfl rfl ?_
    obtain ⟨q2, h⟩ := h
    refine z_imul dX9_laysSums_15 q2 ?_
    refine z_iload_n 2 dX9_laysSums_16 rfl rfl ?_
    obtain ⟨q3, h⟩ := h
    refine z_iadd dX9_laysSums_17 q3 ?_
    refine z_ldc (n := 1000000) zkRX9_112 dX9_laysSums_18 (by decide) (by decide) ?_
    obtain ⟨q5, h⟩ := h
    refine z_iast dX9_laysSums_20 hh0.2.2.2.2.2.2.2.2.2.2.2.2.1 q5 ?_
    refine z_genw (fun w4 hw4 => ?_)
    replace h := h w4 hw4
    obtain ⟨q6, h⟩ := h
    refine z_iinc (L' := [(2, z_i (x2 + 1)), (0, z_r 161), (1, z_i x1)]) 2 dX9_laysSums_21 rfl (by decide) rfl q6 ?_
    refine z_goto (tgt := 2) dX9_laysSums_24 (by decide) ?_
    refine z_sub (L' := [(0, z_r 161), (1, z_i x1), (2, z_i (x2 + 1))]) [1, 2, 0] rfl ?_
    exact h
set_option maxRecDepth 100000 in
theorem t_X9_laysSums_29 {sh : List z_C} {w : Nat → Int → Int} {Q : Option z_V → z_S → Prop} {x1 : Int} {x2 : Int} (hh0 : z_isMod sh 161) (h : (((w 161 13) ≤ x2 → Q none (sh, w)) ∧ (¬ (w 161 13) ≤ x2 → (z_R (x1 - 1)) ∧ (z_R (10 * (x1 - 1))) ∧ ((0 : Int) ≤ x2 ∧ x2 < 60) ∧ (z_R ((10 * (x1 - 1)) + (w 169 x2))) ∧ ((0 : Int) ≤ ((10 * (x1 - 1)) + (w 169 x2)) ∧ ((10 * (x1 - 1)) + (w 169 x2)) < 120) ∧ ∀ y7 : Int, y7 = (w 173 ((10 * (x1 - 1)) + (w 169 x2))) → (z_R (10 * x1)) ∧ ((0 : Int) ≤ x2 ∧ x2 < 60) ∧ (z_R ((10 * x1) + (w 168 x2))) ∧ ∀ y11 : Int, y11 = ((10 * x1) + (w 168 x2)) → (¬ 1000000 ≤ y7 → ((0 : Int) ≤ x2 ∧ x2 < 60) ∧ (z_R (y7 + (w 170 x2))) ∧ ((0 : Int) ≤ y11 ∧ y11 < 120) ∧ True) ∧ ∀ y24 : Int, y24 = (if 1000000 ≤ y7 then 0 else if (w 173 y11) ≤ (y7 + (w 170 x2)) then 0 else 1) → (y24 = 0 → ((0 : Int) ≤ y11 ∧ y11 < 120) ∧ True) ∧ (¬ y24 = 0 → ((0 : Int) ≤ x2 ∧ x2 < 60) ∧ (z_R (y7 + (w 170 x2))) ∧ True) ∧ ((0 : Int) ≤ y11 ∧ y11 < 120) ∧ ∀ w34 : Nat → Int → Int, w34 = z_W w 173 y11 (if y24 = 0 then w 173 y11 else y7 + (w 170 x2)) → (z_R (x2 + 1)) ∧ z_Sem mX9_laysSums (sh.length, 0) 29 [(0, z_r 161), (1, z_i x1), (2, z_i (x2 + 1))] [] (sh, w34) Q))) : z_Sem mX9_laysSums (sh.length, 0) 29 [(0, z_r 161), (1, z_i x1), (2, z_i x2)] [] (sh, w) Q := by
  refine z_iload_n 2 dX9_laysSums_29 rfl rfl ?_
  refine z_aload_n 0 dX9_laysSums_30 rfl rfl ?_
  refine z_getI (ki := 13) zfRX9_84 dX9_laysSums_31 hh0.1 rfl rfl ?_
  refine z_icmp_ge (tgt := 136) dX9_laysSums_34 (by decide) (fun c1 => ?_) (fun c1 => ?_)
  · replace h := h.1 c1
    exact z_ret (v := none) dX9_laysSums_136 ⟨rfl, rfl⟩ rfl rfl h
  · replace h := h.2 c1
    refine z_aload_n 0 dX9_laysSums_37 rfl rfl ?_
    refine z_getR (r := 173) zfRX9_49 dX9_laysSums_38 hh0.1 rfl ?_
    refine z_bipush dX9_laysSums_41 (by decide) (by decide) ?_
    refine z_iload_n 1 dX9_laysSums_43 rfl rfl ?_
    refine z_iconst dX9_laysSums_44 (by decide) ?_
    obtain ⟨q2, h⟩ := h
    refine z_isub dX9_laysSums_45 q2 ?_
    obtain ⟨q3, h⟩ := h
    refine z_imul dX9_laysSums_46 q3 ?_
    refine z_aload_n 0 dX9_laysSums_47 rfl rfl ?_
    refine z_getR (r := 169) zfRX9_37 dX9_laysSums_48 hh0.1 rfl ?_
    refine z_iload_n 2 dX9_laysSums_51 rfl rfl ?_
    obtain ⟨q4, h⟩ := h
    refine z_iald dX9_laysSums_52 hh0.2.2.2.2.2.2.2.2.1 q4 ?_
    obtain ⟨q5, h⟩ := h
    refine z_iadd dX9_laysSums_53 q5 ?_
    obtain ⟨q6, h⟩ := h
    refine z_iald dX9_laysSums_54 hh0.2.2.2.2.2.2.2.2.2.2.2.2.1 q6 ?_
    refine z_nam (fun y7 hy7 => ?_)
    replace h := h y7 hy7
    refine z_istore_n (L' := [(3, z_i y7), (0, z_r 161), (1, z_i x1), (2, z_i x2)]) dX9_laysSums_55 rfl (by decide) rfl ?_
    refine z_bipush dX9_laysSums_56 (by decide) (by decide) ?_
    refine z_iload_n 2 dX9_laysSums_58 rfl rfl ?_
    obtain ⟨q8, h⟩ := h
    refine z_imul dX9_laysSums_59 q8 ?_
    refine z_aload_n 1 dX9_laysSums_60 rfl rfl ?_
    refine z_getR (r := 168) zfRX9_34 dX9_laysSums_61 hh0.1 rfl ?_
    refine z_iload_n 3 dX9_laysSums_64 rfl rfl ?_
    obtain ⟨q9, h⟩ := h
    refine z_iald dX9_laysSums_65 hh0.2.2.2.2.2.2.2.1 q9 ?_
    obtain ⟨q10, h⟩ := h
    refine z_iadd dX9_laysSums_66 q10 ?_
    refine z_nam (fun y11 hy11 => ?_)
    replace h := h y11 hy11
    refine z_istore (L' := [(4, z_i y11), (3, z_i y7), (0, z_r 161), (1, z_i x1), (2, z_i x2)]) dX9_laysSums_67 (by decide) rfl ?_
    refine z_iload_n 1 dX9_laysSums_69 rfl rfl ?_
    refine z_ldc (n := 1000000) zkRX9_112 dX9_laysSums_70 (by decide) (by decide) ?_
    obtain ⟨m14, h⟩ := h
    suffices hJ12 : z_Sem mX9_laysSums (sh.length, 0) 98 [(0, z_r 161), (1, z_i x1), (2, z_i x2), (3, z_i y7), (4, z_i y11)] [z_i (if 1000000 ≤ y7 then 0 else if (w 173 y11) ≤ (y7 + (w 170 x2)) then 0 else 1)] (sh, w) Q by
      refine z_icmp_ge (tgt := 97) dX9_laysSums_72 (by decide) (fun c13 => ?_) (fun c13 => ?_)
      · skip
        refine z_iconst dX9_laysSums_97 (by decide) ?_
        refine z_sub (L' := [(0, z_r 161), (1, z_i x1), (2, z_i x2), (3, z_i y7), (4, z_i y11)]) [2, 3, 4, 1, 0] rfl ?_
        simp only [if_pos c13] at hJ12
        exact hJ12
      · skip
        have ho16 := m14 c13
        refine z_iload_n 1 dX9_laysSums_75 rfl rfl ?_
        refine z_aload_n 2 dX9_laysSums_76 rfl rfl ?_
        refine z_getR (r := 170) zfRX9_40 dX9_laysSums_77 hh0.1 rfl ?_
        refine z_iload_n 4 dX9_laysSums_80 rfl rfl ?_
        obtain ⟨q17, ho16⟩ := ho16
        refine z_iald dX9_laysSums_81 hh0.2.2.2.2.2.2.2.2.2.1 q17 ?_
        obtain ⟨q18, ho16⟩ := ho16
        refine z_iadd dX9_laysSums_82 q18 ?_
        refine z_aload_n 2 dX9_laysSums_83 rfl rfl ?_
        refine z_getR (r := 173) zfRX9_49 dX9_laysSums_84 hh0.1 rfl ?_
        refine z_iload 0 dX9_laysSums_87 rfl ?_
        obtain ⟨q19, ho16⟩ := ho16
        refine z_iald dX9_laysSums_89 hh0.2.2.2.2.2.2.2.2.2.2.2.2.1 q19 ?_
        suffices hJ20 : z_Sem mX9_laysSums (sh.length, 0) 98 [(0, z_r 161), (1, z_i x1), (2, z_i x2), (3, z_i y7), (4, z_i y11)] [z_i (if (w 173 y11) ≤ (y7 + (w 170 x2)) then 0 else 1)] (sh, w) Q by
          refine z_icmp_ge (tgt := 97) dX9_laysSums_90 (by decide) (fun c21 => ?_) (fun c21 => ?_)
          · skip
            refine z_iconst dX9_laysSums_97 (by decide) ?_
            refine z_sub (L' := [(0, z_r 161), (1, z_i x1), (2, z_i x2), (3, z_i y7), (4, z_i y11)]) [2, 3, 4, 1, 0] rfl ?_
            simp only [if_pos c21] at hJ20
            exact hJ20
          · skip
            refine z_iconst dX9_laysSums_93 (by decide) ?_
            refine z_goto (tgt := 98) dX9_laysSums_94 (by decide) ?_
            refine z_sub (L' := [(0, z_r 161), (1, z_i x1), (2, z_i x2), (3, z_i y7), (4, z_i y11)]) [2, 3, 4, 1, 0] rfl ?_
            simp only [if_neg c21] at hJ20
            exact hJ20
        simp only [if_neg c13] at hJ12
        exact hJ12
    refine z_nam (fun y24 hy24 => ?_)
    replace h := h y24 hy24
    refine z_istore (L' := [(5, z_i y24), (0, z_r 161), (1, z_i x1), (2, z_i x2), (3, z_i y7), (4, z_i y11)]) dX9_laysSums_98 (by decide) rfl ?_
    refine z_aload_n 1 dX9_laysSums_100 rfl rfl ?_
    refine z_getR (r := 173) zfRX9_49 dX9_laysSums_101 hh0.1 rfl ?_
    refine z_iload 5 dX9_laysSums_104 rfl ?_
    refine z_iload 0 dX9_laysSums_106 rfl ?_
    obtain ⟨m27, m28, h⟩ := h
    suffices hJ25 : z_Sem mX9_laysSums (sh.length, 0) 129 [(0, z_r 161), (1, z_i x1), (2, z_i x2)] [z_i (if y24 = 0 then w 173 y11 else y7 + (w 170 x2)), z_i y11, z_r 173] (sh, w) Q by
      refine z_if_eq (tgt := 122) dX9_laysSums_108 (by decide) (fun c26 => ?_) (fun c26 => ?_)
      · skip
        have ho29 := m27 c26
        refine z_aload_n 1 dX9_laysSums_122 rfl rfl ?_
        refine z_getR (r := 173) zfRX9_49 dX9_laysSums_123 hh0.1 rfl ?_
        refine z_iload 5 dX9_laysSums_126 rfl ?_
        obtain ⟨q30, ho29⟩ := ho29
        refine z_iald dX9_laysSums_128 hh0.2.2.2.2.2.2.2.2.2.2.2.2.1 q30 ?_
        refine z_sub (L' := [(0, z_r 161), (1, z_i x1), (2, z_i x2)]) [1, 2, 3] rfl ?_
        simp only [if_pos c26] at hJ25
        exact hJ25
      · skip
        have ho31 := m28 c26
        refine z_iload_n 4 dX9_laysSums_111 rfl rfl ?_
        refine z_aload_n 1 dX9_laysSums_112 rfl rfl ?_
        refine z_getR (r := 170) zfRX9_40 dX9_laysSums_113 hh0.1 rfl ?_
        refine z_iload_n 3 dX9_laysSums_116 rfl rfl ?_
        obtain ⟨q32, ho31⟩ := ho31
        refine z_iald dX9_laysSums_117 hh0.2.2.2.2.2.2.2.2.2.1 q32 ?_
        obtain ⟨q33, ho31⟩ := ho31
        refine z_iadd dX9_laysSums_118 q33 ?_
        refine z_goto (tgt := 129) dX9_laysSums_119 (by decide) ?_
        refine z_sub (L' := [(0, z_r 161), (1, z_i x1), (2, z_i x2)]) [1, 2, 3] rfl ?_
        simp only [if_neg c26] at hJ25
        exact hJ25
    obtain ⟨q35, h⟩ := h
    refine z_iast dX9_laysSums_129 hh0.2.2.2.2.2.2.2.2.2.2.2.2.1 q35 ?_
    refine z_genw (fun w34 hw34 => ?_)
    replace h := h w34 hw34
    obtain ⟨q36, h⟩ := h
    refine z_iinc (L' := [(2, z_i (x2 + 1)), (0, z_r 161), (1, z_i x1)]) 2 dX9_laysSums_130 rfl (by decide) rfl q36 ?_
    refine z_goto (tgt := 29) dX9_laysSums_133 (by decide) ?_
    refine z_sub (L' := [(0, z_r 161), (1, z_i x1), (2, z_i (x2 + 1))]) [1, 2, 0] rfl ?_
    exact h
set_option maxRecDepth 100000 in
theorem t_X9_firstStep {sh : List z_C} {w : Nat → Int → Int} {Q : Option z_V → z_S → Prop} {x1 : Int} {x2 : Int} {x3 : Int} (hh0 : z_isMod sh 161) (h : z_Sem mX9_firstStep (sh.length, 0) 3 [(0, z_r 161), (1, z_i x1), (2, z_i x2), (3, z_i x3), (4, z_i 0)] [] (sh, w) Q) : z_Sem mX9_firstStep (sh.length, 0) 0 [(0, z_r 161), (1, z_i x1), (2, z_i x2), (3, z_i x3)] [] (sh, w) Q := by
  refine z_iconst dX9_firstStep_0 (by decide) ?_
  refine z_istore (L' := [(4, z_i 0), (0, z_r 161), (1, z_i x1), (2, z_i x2), (3, z_i x3)]) dX9_firstStep_1 (by decide) rfl ?_
  refine z_sub (L' := [(0, z_r 161), (1, z_i x1), (2, z_i x2), (3, z_i x3), (4, z_i 0)]) [1, 2, 3, 4, 0] rfl ?_
  exact h
set_option maxRecDepth 100000 in
theorem t_X9_firstStep_3 {sh : List z_C} {w : Nat → Int → Int} {Q : Option z_V → z_S → Prop} {x1 : Int} {x2 : Int} {x3 : Int} {x4 : Int} (hh0 : z_isMod sh 161) (h : ((0 : Int) ≤ x4 ∧ x4 < 60) ∧ (((w 168 x4) = x1 → ((0 : Int) ≤ x4 ∧ x4 < 60) ∧ (z_R (10 * x3)) ∧ ((0 : Int) ≤ x4 ∧ x4 < 60) ∧ (z_R ((10 * x3) + (w 169 x4))) ∧ ((0 : Int) ≤ ((10 * x3) + (w 169 x4)) ∧ ((10 * x3) + (w 169 x4)) < 120) ∧ (z_R ((w 170 x4) + (w 173 ((10 * x3) + (w 169 x4))))) ∧ ((((w 170 x4) + (w 173 ((10 * x3) + (w 169 x4)))) = x2 → Q (some (z_i x4)) (sh, w)) ∧ (¬ ((w 170 x4) + (w 173 ((10 * x3) + (w 169 x4)))) = x2 → (z_R (x4 + 1)) ∧ z_Sem mX9_firstStep (sh.length, 0) 3 [(0, z_r 161), (1, z_i x1), (2, z_i x2), (3, z_i x3), (4, z_i (x4 + 1))] [] (sh, w) Q))) ∧ (¬ (w 168 x4) = x1 → (z_R (x4 + 1)) ∧ z_Sem mX9_firstStep (sh.length, 0) 3 [(0, z_r 161), (1, z_i x1), (2, z_i x2), (3, z_i x3), (4, z_i (x4 + 1))] [] (sh, w) Q))) : z_Sem mX9_firstStep (sh.length, 0) 3 [(0, z_r 161), (1, z_i x1), (2, z_i x2), (3, z_i x3), (4, z_i x4)] [] (sh, w) Q := by
  refine z_aload_n 0 dX9_firstStep_3 rfl rfl ?_
  refine z_getR (r := 168) zfRX9_34 dX9_firstStep_4 hh0.1 rfl ?_
  refine z_iload 4 dX9_firstStep_7 rfl ?_
  obtain ⟨q1, h⟩ := h
  refine z_iald dX9_firstStep_9 hh0.2.2.2.2.2.2.2.1 q1 ?_
  refine z_iload_n 1 dX9_firstStep_10 rfl rfl ?_
  refine z_icmp_ne (tgt := 43) dX9_firstStep_11 (by decide) (fun c2 => ?_) (fun c2 => ?_)
  · replace h := h.2 c2
    obtain ⟨q3, h⟩ := h
    refine z_iinc (L' := [(4, z_i (x4 + 1)), (0, z_r 161), (1, z_i x1), (2, z_i x2), (3, z_i x3)]) 4 dX9_firstStep_43 rfl (by decide) rfl q3 ?_
    refine z_goto (tgt := 3) dX9_firstStep_46 (by decide) ?_
    refine z_sub (L' := [(0, z_r 161), (1, z_i x1), (2, z_i x2), (3, z_i x3), (4, z_i (x4 + 1))]) [1, 2, 3, 4, 0] rfl ?_
    exact h
  · replace h := h.1 c2
    refine z_aload_n 0 dX9_firstStep_14 rfl rfl ?_
    refine z_getR (r := 170) zfRX9_40 dX9_firstStep_15 hh0.1 rfl ?_
    refine z_iload 4 dX9_firstStep_18 rfl ?_
    obtain ⟨q4, h⟩ := h
    refine z_iald dX9_firstStep_20 hh0.2.2.2.2.2.2.2.2.2.1 q4 ?_
    refine z_aload_n 0 dX9_firstStep_21 rfl rfl ?_
    refine z_getR (r := 173) zfRX9_49 dX9_firstStep_22 hh0.1 rfl ?_
    refine z_bipush dX9_firstStep_25 (by decide) (by decide) ?_
    refine z_iload_n 3 dX9_firstStep_27 rfl rfl ?_
    obtain ⟨q5, h⟩ := h
    refine z_imul dX9_firstStep_28 q5 ?_
    refine z_aload_n 0 dX9_firstStep_29 rfl rfl ?_
    refine z_getR (r := 169) zfRX9_37 dX9_firstStep_30 hh0.1 rfl ?_
    refine z_iload 4 dX9_firstStep_33 rfl ?_
    obtain ⟨q6, h⟩ := h
    refine z_iald dX9_firstStep_35 hh0.2.2.2.2.2.2.2.2.1 q6 ?_
    obtain ⟨q7, h⟩ := h
    refine z_iadd dX9_firstStep_36 q7 ?_
    obtain ⟨q8, h⟩ := h
    refine z_iald dX9_firstStep_37 hh0.2.2.2.2.2.2.2.2.2.2.2.2.1 q8 ?_
    obtain ⟨q9, h⟩ := h
    refine z_iadd dX9_firstStep_38 q9 ?_
    refine z_iload_n 2 dX9_firstStep_39 rfl rfl ?_
    refine z_icmp_eq (tgt := 49) dX9_firstStep_40 (by decide) (fun c10 => ?_) (fun c10 => ?_)
    · replace h := h.1 c10
      refine z_iload 4 dX9_firstStep_49 rfl ?_
      exact z_ret (v := some (z_i x4)) dX9_firstStep_51 ⟨rfl, Or.inl rfl⟩ rfl rfl h
    · replace h := h.2 c10
      obtain ⟨q11, h⟩ := h
      refine z_iinc (L' := [(4, z_i (x4 + 1)), (0, z_r 161), (1, z_i x1), (2, z_i x2), (3, z_i x3)]) 4 dX9_firstStep_43 rfl (by decide) rfl q11 ?_
      refine z_goto (tgt := 3) dX9_firstStep_46 (by decide) ?_
      refine z_sub (L' := [(0, z_r 161), (1, z_i x1), (2, z_i x2), (3, z_i x3), (4, z_i (x4 + 1))]) [1, 2, 3, 4, 0] rfl ?_
      exact h
set_option maxRecDepth 100000 in
theorem t_X9_laysWay {sh : List z_C} {w : Nat → Int → Int} {Q : Option z_V → z_S → Prop} {x1 : Int} {x2 : Int} (hh0 : z_isMod sh 161) (h : z_Sem mX9_laysWay (sh.length, 0) 2 [(0, z_r 161), (1, z_i x1), (2, z_i x2), (3, z_i 0)] [] (sh, w) Q) : z_Sem mX9_laysWay (sh.length, 0) 0 [(0, z_r 161), (1, z_i x1), (2, z_i x2)] [] (sh, w) Q := by
  refine z_iconst dX9_laysWay_0 (by decide) ?_
  refine z_istore_n (L' := [(3, z_i 0), (0, z_r 161), (1, z_i x1), (2, z_i x2)]) dX9_laysWay_1 rfl (by decide) rfl ?_
  refine z_sub (L' := [(0, z_r 161), (1, z_i x1), (2, z_i x2), (3, z_i 0)]) [1, 2, 3, 0] rfl ?_
  exact h
set_option maxRecDepth 100000 in
theorem t_X9_laysWay_2 {sh : List z_C} {w : Nat → Int → Int} {Q : Option z_V → z_S → Prop} {x1 : Int} {x2 : Int} {x3 : Int} (hh0 : z_isMod sh 161) (h : ((10 ≤ x3 → z_Sem mX9_laysWay (sh.length, 0) 33 [(0, z_r 161), (1, z_i x1), (2, z_i x2), (3, z_i 0)] [] (sh, w) Q) ∧ (¬ 10 ≤ x3 → ((0 : Int) ≤ x3 ∧ x3 < 120) ∧ ∀ w6 : Nat → Int → Int, w6 = z_W w 173 x3 (if x3 = x2 then 0 else 1000000) → (z_R (x3 + 1)) ∧ z_Sem mX9_laysWay (sh.length, 0) 2 [(0, z_r 161), (1, z_i x1), (2, z_i x2), (3, z_i (x3 + 1))] [] (sh, w6) Q))) : z_Sem mX9_laysWay (sh.length, 0) 2 [(0, z_r 161), (1, z_i x1), (2, z_i x2), (3, z_i x3)] [] (sh, w) Q := by
  refine z_iload_n 3 dX9_laysWay_2 rfl rfl ?_
  refine z_bipush dX9_laysWay_3 (by decide) (by decide) ?_
  refine z_icmp_ge (tgt := 31) dX9_laysWay_5 (by decide) (fun c1 => ?_) (fun c1 => ?_)
  · replace h := h.1 c1
    refine z_iconst dX9_laysWay_31 (by decide) ?_
    refine z_istore_n (L' := [(3, z_i 0), (0, z_r 161), (1, z_i x1), (2, z_i x2)]) dX9_laysWay_32 rfl (by decide) rfl ?_
    refine z_sub (L' := [(0, z_r 161), (1, z_i x1), (2, z_i x2), (3, z_i 0)]) [1, 2, 3, 0] rfl ?_
    exact h
  · replace h := h.2 c1
    refine z_aload_n 0 dX9_laysWay_8 rfl rfl ?_
    refine z_getR (r := 173) zfRX9_49 dX9_laysWay_9 hh0.1 rfl ?_
    refine z_iload_n 3 dX9_laysWay_12 rfl rfl ?_
    refine z_iload_n 3 dX9_laysWay_13 rfl rfl ?_
    refine z_iload_n 2 dX9_laysWay_14 rfl rfl ?_
    suffices hJ2 : z_Sem mX9_laysWay (sh.length, 0) 24 [(0, z_r 161), (1, z_i x1), (2, z_i x2), (3, z_i x3)] [z_i (if x3 = x2 then 0 else 1000000), z_i x3, z_r 173] (sh, w) Q by
      refine z_icmp_ne (tgt := 22) dX9_laysWay_15 (by decide) (fun c3 => ?_) (fun c3 => ?_)
      · skip
        refine z_ldc (n := 1000000) zkRX9_112 dX9_laysWay_22 (by decide) (by decide) ?_
        simp only [if_neg c3] at hJ2
        exact hJ2
      · skip
        refine z_iconst dX9_laysWay_18 (by decide) ?_
        refine z_goto (tgt := 24) dX9_laysWay_19 (by decide) ?_
        simp only [if_pos c3] at hJ2
        exact hJ2
    obtain ⟨q7, h⟩ := h
    refine z_iast dX9_laysWay_24 hh0.2.2.2.2.2.2.2.2.2.2.2.2.1 q7 ?_
    refine z_genw (fun w6 hw6 => ?_)
    replace h := h w6 hw6
    obtain ⟨q8, h⟩ := h
    refine z_iinc (L' := [(3, z_i (x3 + 1)), (0, z_r 161), (1, z_i x1), (2, z_i x2)]) 3 dX9_laysWay_25 rfl (by decide) rfl q8 ?_
    refine z_goto (tgt := 2) dX9_laysWay_28 (by decide) ?_
    refine z_sub (L' := [(0, z_r 161), (1, z_i x1), (2, z_i x2), (3, z_i (x3 + 1))]) [1, 2, 3, 0] rfl ?_
    exact h
set_option maxRecDepth 100000 in
theorem t_X9_laysWay_33 {sh : List z_C} {w : Nat → Int → Int} {Q : Option z_V → z_S → Prop} {x1 : Int} {x2 : Int} {x3 : Int} (hh0 : z_isMod sh 161) (h : (z_R (10 * x3)) ∧ (z_R ((10 * x3) + x1)) ∧ ((0 : Int) ≤ ((10 * x3) + x1) ∧ ((10 * x3) + x1) < 120) ∧ (s_X9_boundOf w x1 x2) ∧ (((w 173 ((10 * x3) + x1)) = (f_X9_boundOf w x1 x2) → (s_X9_boundOf w x1 x2) ∧ ∀ y7 : Int, y7 = (f_X9_boundOf w x1 x2) → z_Sem mX9_laysWay (sh.length, 0) 78 [(0, z_r 161), (3, z_i x3), (4, z_i x1), (5, z_i y7), (6, z_i 0)] [] (sh, w) Q) ∧ (¬ (w 173 ((10 * x3) + x1)) = (f_X9_boundOf w x1 x2) → (z_R (x3 + 1)) ∧ z_CV mX9_laysSums [z_r 161, z_i (x3 + 1)] sh w (fun w9 => z_Sem mX9_laysWay (sh.length, 0) 33 [(0, z_r 161), (1, z_i x1), (2, z_i x2), (3, z_i (x3 + 1))] [] (sh, w9) Q)))) : z_Sem mX9_laysWay (sh.length, 0) 33 [(0, z_r 161), (1, z_i x1), (2, z_i x2), (3, z_i x3)] [] (sh, w) Q := by
  refine z_aload_n 0 dX9_laysWay_33 rfl rfl ?_
  refine z_getR (r := 173) zfRX9_49 dX9_laysWay_34 hh0.1 rfl ?_
  refine z_bipush dX9_laysWay_37 (by decide) (by decide) ?_
  refine z_iload_n 3 dX9_laysWay_39 rfl rfl ?_
  obtain ⟨q1, h⟩ := h
  refine z_imul dX9_laysWay_40 q1 ?_
  refine z_iload_n 1 dX9_laysWay_41 rfl rfl ?_
  obtain ⟨q2, h⟩ := h
  refine z_iadd dX9_laysWay_42 q2 ?_
  obtain ⟨q3, h⟩ := h
  refine z_iald dX9_laysWay_43 hh0.2.2.2.2.2.2.2.2.2.2.2.2.1 q3 ?_
  refine z_aload_n 0 dX9_laysWay_44 rfl rfl ?_
  refine z_iload_n 1 dX9_laysWay_45 rfl rfl ?_
  refine z_iload_n 2 dX9_laysWay_46 rfl rfl ?_
  obtain ⟨q4, h⟩ := h
  refine z_callV (As := [z_i x1, z_i x2]) (rest := [z_i (w 173 ((10 * x3) + x1))]) zmX9_boundOf znX9_boundOf zsX9_boundOf (show vwCl[9]? = some (RX9, TX9, 29) from rfl) zlRX9_113 ⟨Nat.le_of_ble_eq_true rfl, Nat.le_of_ble_eq_true rfl⟩ dX9_laysWay_47 hh0.1 rfl rfl (z_ai (z_ai z_a0)) (Nat.le_of_ble_eq_true rfl) (Nat.le_of_ble_eq_true rfl) ⟨Nat.le_refl _, Nat.le_refl _⟩ ?_
  refine t_X9_boundOf hh0 q4 ?_
  show z_Sem mX9_laysWay (sh.length, 0) 50 [(0, z_r 161), (1, z_i x1), (2, z_i x2), (3, z_i x3)] [z_i (f_X9_boundOf w x1 x2), z_i (w 173 ((10 * x3) + x1))] (sh, w) Q
  refine z_icmp_eq (tgt := 64) dX9_laysWay_50 (by decide) (fun c5 => ?_) (fun c5 => ?_)
  · replace h := h.1 c5
    refine z_iload_n 1 dX9_laysWay_64 rfl rfl ?_
    refine z_istore (L' := [(4, z_i x1), (0, z_r 161), (1, z_i x1), (2, z_i x2), (3, z_i x3)]) dX9_laysWay_65 (by decide) rfl ?_
    refine z_aload_n 1 dX9_laysWay_67 rfl rfl ?_
    refine z_iload_n 2 dX9_laysWay_68 rfl rfl ?_
    refine z_iload_n 3 dX9_laysWay_69 rfl rfl ?_
    obtain ⟨q6, h⟩ := h
    refine z_callV (As := [z_i x1, z_i x2]) (rest := []) zmX9_boundOf znX9_boundOf zsX9_boundOf (show vwCl[9]? = some (RX9, TX9, 29) from rfl) zlRX9_113 ⟨Nat.le_of_ble_eq_true rfl, Nat.le_of_ble_eq_true rfl⟩ dX9_laysWay_70 hh0.1 rfl rfl (z_ai (z_ai z_a0)) (Nat.le_of_ble_eq_true rfl) (Nat.le_of_ble_eq_true rfl) ⟨Nat.le_refl _, Nat.le_refl _⟩ ?_
    refine t_X9_boundOf hh0 q6 ?_
    show z_Sem mX9_laysWay (sh.length, 0) 73 [(4, z_i x1), (0, z_r 161), (1, z_i x1), (2, z_i x2), (3, z_i x3)] [z_i (f_X9_boundOf w x1 x2)] (sh, w) Q
    refine z_nam (fun y7 hy7 => ?_)
    replace h := h y7 hy7
    refine z_istore (L' := [(5, z_i y7), (4, z_i x1), (0, z_r 161), (1, z_i x1), (2, z_i x2), (3, z_i x3)]) dX9_laysWay_73 (by decide) rfl ?_
    refine z_iconst dX9_laysWay_75 (by decide) ?_
    refine z_istore (L' := [(6, z_i 0), (5, z_i y7), (4, z_i x1), (0, z_r 161), (1, z_i x1), (2, z_i x2), (3, z_i x3)]) dX9_laysWay_76 (by decide) rfl ?_
    refine z_sub (L' := [(0, z_r 161), (3, z_i x3), (4, z_i x1), (5, z_i y7), (6, z_i 0)]) [3, 6, 2, 1, 0] rfl ?_
    exact h
  · replace h := h.2 c5
    obtain ⟨q8, h⟩ := h
    refine z_iinc (L' := [(3, z_i (x3 + 1)), (0, z_r 161), (1, z_i x1), (2, z_i x2)]) 3 dX9_laysWay_53 rfl (by decide) rfl q8 ?_
    refine z_aload_n 1 dX9_laysWay_56 rfl rfl ?_
    refine z_iload_n 0 dX9_laysWay_57 rfl rfl ?_
    refine z_callV (As := [z_i (x3 + 1)]) (rest := []) zmX9_laysSums znX9_laysSums zsX9_laysSums (show vwCl[9]? = some (RX9, TX9, 29) from rfl) zlRX9_279 ⟨Nat.le_of_ble_eq_true rfl, Nat.le_of_ble_eq_true rfl⟩ dX9_laysWay_58 hh0.1 rfl rfl (z_ai z_a0) (Nat.le_of_ble_eq_true rfl) (Nat.le_of_ble_eq_true rfl) ⟨Nat.le_refl _, Nat.le_refl _⟩ (z_CVm h ?_)
    intro w9 h
    show z_Sem mX9_laysWay (sh.length, 0) 61 [(3, z_i (x3 + 1)), (0, z_r 161), (1, z_i x1), (2, z_i x2)] [] (sh, w9) Q
    refine z_goto (tgt := 33) dX9_laysWay_61 (by decide) ?_
    refine z_sub (L' := [(0, z_r 161), (1, z_i x1), (2, z_i x2), (3, z_i (x3 + 1))]) [1, 2, 3, 0] rfl ?_
    exact h
set_option maxRecDepth 100000 in
theorem t_X9_laysWay_78 {sh : List z_C} {w : Nat → Int → Int} {Q : Option z_V → z_S → Prop} {x3 : Int} {x4 : Int} {x5 : Int} {x6 : Int} (hh0 : z_isMod sh 161) (h : ((x3 ≤ x6 → Q (some (z_i x3)) (sh, w)) ∧ (¬ x3 ≤ x6 → (z_R (x3 - 1)) ∧ (z_R ((x3 - 1) - x6)) ∧ z_CI mX9_firstStep [z_r 161, z_i x4, z_i x5, z_i ((x3 - 1) - x6)] sh w (fun y5 w4 => ((0 : Int) ≤ y5 ∧ y5 < 60) ∧ ((0 : Int) ≤ x6 ∧ x6 < 12) ∧ ∀ w7 : Nat → Int → Int, w7 = z_W w4 174 x6 (w4 171 y5) → ((0 : Int) ≤ y5 ∧ y5 < 60) ∧ (z_R (x5 - (w7 170 y5))) ∧ ((0 : Int) ≤ y5 ∧ y5 < 60) ∧ ∀ y12 : Int, y12 = (w7 169 y5) → (z_R (x6 + 1)) ∧ z_Sem mX9_laysWay (sh.length, 0) 78 [(0, z_r 161), (3, z_i x3), (4, z_i y12), (5, z_i (x5 - (w7 170 y5))), (6, z_i (x6 + 1))] [] (sh, w7) Q)))) : z_Sem mX9_laysWay (sh.length, 0) 78 [(0, z_r 161), (3, z_i x3), (4, z_i x4), (5, z_i x5), (6, z_i x6)] [] (sh, w) Q := by
  refine z_iload 4 dX9_laysWay_78 rfl ?_
  refine z_iload_n 1 dX9_laysWay_80 rfl rfl ?_
  refine z_icmp_ge (tgt := 141) dX9_laysWay_81 (by decide) (fun c1 => ?_) (fun c1 => ?_)
  · replace h := h.1 c1
    refine z_iload_n 1 dX9_laysWay_141 rfl rfl ?_
    exact z_ret (v := some (z_i x3)) dX9_laysWay_142 ⟨rfl, Or.inl rfl⟩ rfl rfl h
  · replace h := h.2 c1
    refine z_aload_n 0 dX9_laysWay_84 rfl rfl ?_
    refine z_iload 2 dX9_laysWay_85 rfl ?_
    refine z_iload 3 dX9_laysWay_87 rfl ?_
    refine z_iload_n 1 dX9_laysWay_89 rfl rfl ?_
    refine z_iconst dX9_laysWay_90 (by decide) ?_
    obtain ⟨q2, h⟩ := h
    refine z_isub dX9_laysWay_91 q2 ?_
    refine z_iload 4 dX9_laysWay_92 rfl ?_
    obtain ⟨q3, h⟩ := h
    refine z_isub dX9_laysWay_94 q3 ?_
    refine z_callV (As := [z_i x4, z_i x5, z_i ((x3 - 1) - x6)]) (rest := []) zmX9_firstStep znX9_firstStep zsX9_firstStep (show vwCl[9]? = some (RX9, TX9, 29) from rfl) zlRX9_282 ⟨Nat.le_of_ble_eq_true rfl, Nat.le_of_ble_eq_true rfl⟩ dX9_laysWay_95 hh0.1 rfl rfl (z_ai (z_ai (z_ai z_a0))) (Nat.le_of_ble_eq_true rfl) (Nat.le_of_ble_eq_true rfl) ⟨Nat.le_refl _, Nat.le_refl _⟩ (z_CIm h ?_)
    intro y5 w4 h
    show z_Sem mX9_laysWay (sh.length, 0) 98 [(0, z_r 161), (3, z_i x3), (4, z_i x4), (5, z_i x5), (6, z_i x6)] [z_i y5] (sh, w4) Q
    refine z_istore (L' := [(7, z_i y5), (0, z_r 161), (3, z_i x3), (4, z_i x4), (5, z_i x5), (6, z_i x6)]) dX9_laysWay_98 (by decide) rfl ?_
    refine z_aload_n 1 dX9_laysWay_100 rfl rfl ?_
    refine z_getR (r := 174) zfRX9_52 dX9_laysWay_101 hh0.1 rfl ?_
    refine z_iload 5 dX9_laysWay_104 rfl ?_
    refine z_aload_n 1 dX9_laysWay_106 rfl rfl ?_
    refine z_getR (r := 171) zfRX9_43 dX9_laysWay_107 hh0.1 rfl ?_
    refine z_iload 0 dX9_laysWay_110 rfl ?_
    obtain ⟨q6, h⟩ := h
    refine z_iald dX9_laysWay_112 hh0.2.2.2.2.2.2.2.2.2.2.1 q6 ?_
    obtain ⟨q8, h⟩ := h
    refine z_iast dX9_laysWay_113 hh0.2.2.2.2.2.2.2.2.2.2.2.2.2.1 q8 ?_
    refine z_genw (fun w7 hw7 => ?_)
    replace h := h w7 hw7
    refine z_iload 4 dX9_laysWay_114 rfl ?_
    refine z_aload_n 1 dX9_laysWay_116 rfl rfl ?_
    refine z_getR (r := 170) zfRX9_40 dX9_laysWay_117 hh0.1 rfl ?_
    refine z_iload 0 dX9_laysWay_120 rfl ?_
    obtain ⟨q9, h⟩ := h
    refine z_iald dX9_laysWay_122 hh0.2.2.2.2.2.2.2.2.2.1 q9 ?_
    obtain ⟨q10, h⟩ := h
    refine z_isub dX9_laysWay_123 q10 ?_
    refine z_istore (L' := [(5, z_i (x5 - (w7 170 y5))), (7, z_i y5), (0, z_r 161), (3, z_i x3), (4, z_i x4), (6, z_i x6)]) dX9_laysWay_124 (by decide) rfl ?_
    refine z_aload_n 2 dX9_laysWay_126 rfl rfl ?_
    refine z_getR (r := 169) zfRX9_37 dX9_laysWay_127 hh0.1 rfl ?_
    refine z_iload 1 dX9_laysWay_130 rfl ?_
    obtain ⟨q11, h⟩ := h
    refine z_iald dX9_laysWay_132 hh0.2.2.2.2.2.2.2.2.1 q11 ?_
    refine z_nam (fun y12 hy12 => ?_)
    replace h := h y12 hy12
    refine z_istore (L' := [(4, z_i y12), (5, z_i (x5 - (w7 170 y5))), (7, z_i y5), (0, z_r 161), (3, z_i x3), (6, z_i x6)]) dX9_laysWay_133 (by decide) rfl ?_
    obtain ⟨q13, h⟩ := h
    refine z_iinc (L' := [(6, z_i (x6 + 1)), (4, z_i y12), (5, z_i (x5 - (w7 170 y5))), (7, z_i y5), (0, z_r 161), (3, z_i x3)]) 5 dX9_laysWay_135 rfl (by decide) rfl q13 ?_
    refine z_goto (tgt := 78) dX9_laysWay_138 (by decide) ?_
    refine z_sub (L' := [(0, z_r 161), (3, z_i x3), (4, z_i y12), (5, z_i (x5 - (w7 170 y5))), (6, z_i (x6 + 1))]) [4, 5, 1, 2, 0] rfl ?_
    exact h
set_option maxRecDepth 100000 in
theorem t_X9_way {sh : List z_C} {w : Nat → Int → Int} {Q : Option z_V → z_S → Prop} {x1 : Int} {x2 : Int} {x3 : Int} (hh0 : z_isMod sh 161) (h : (s_X9_areTwo w x1 x2) ∧ (((f_X9_areTwo w x1 x2) = 0 → Q (some (z_i (-1))) (sh, w)) ∧ (¬ (f_X9_areTwo w x1 x2) = 0 → ((0 ≤ x3 → z_CI mX9_lays [z_r 161] sh w (fun y5 w4 => z_CI mX9_laysWay [z_r 161, z_i x1, z_i x2] sh w4 (fun y7 w6 => (¬ y7 ≤ x3 → ((0 : Int) ≤ x3 ∧ x3 < 12) ∧ True) ∧ Q (some (z_i (if y7 ≤ x3 then -2 else w6 174 x3))) (sh, w6)))) ∧ (¬ 0 ≤ x3 → Q (some (z_i (-1))) (sh, w)))))) : z_Sem mX9_way (sh.length, 0) 0 [(0, z_r 161), (1, z_i x1), (2, z_i x2), (3, z_i x3)] [] (sh, w) Q := by
  refine z_aload_n 0 dX9_way_0 rfl rfl ?_
  refine z_iload_n 1 dX9_way_1 rfl rfl ?_
  refine z_iload_n 2 dX9_way_2 rfl rfl ?_
  obtain ⟨q1, h⟩ := h
  refine z_callV (As := [z_i x1, z_i x2]) (rest := []) zmX9_areTwo znX9_areTwo zsX9_areTwo (show vwCl[9]? = some (RX9, TX9, 29) from rfl) zlRX9_143 ⟨Nat.le_of_ble_eq_true rfl, Nat.le_of_ble_eq_true rfl⟩ dX9_way_3 hh0.1 rfl rfl (z_ai (z_ai z_a0)) (Nat.le_of_ble_eq_true rfl) (Nat.le_of_ble_eq_true rfl) ⟨Nat.le_refl _, Nat.le_refl _⟩ ?_
  refine t_X9_areTwo hh0 q1 ?_
  show z_Sem mX9_way (sh.length, 0) 6 [(0, z_r 161), (1, z_i x1), (2, z_i x2), (3, z_i x3)] [z_i (f_X9_areTwo w x1 x2)] (sh, w) Q
  refine z_if_eq (tgt := 13) dX9_way_6 (by decide) (fun c2 => ?_) (fun c2 => ?_)
  · replace h := h.1 c2
    refine z_iconst dX9_way_13 (by decide) ?_
    exact z_ret (v := some (z_i (-1))) dX9_way_14 ⟨rfl, Or.inl rfl⟩ rfl rfl h
  · replace h := h.2 c2
    refine z_iload_n 3 dX9_way_9 rfl rfl ?_
    refine z_if_ge (tgt := 15) dX9_way_10 (by decide) (fun c3 => ?_) (fun c3 => ?_)
    · replace h := h.1 c3
      refine z_aload_n 0 dX9_way_15 rfl rfl ?_
      refine z_callV (As := []) (rest := []) zmX9_lays znX9_lays zsX9_lays (show vwCl[9]? = some (RX9, TX9, 29) from rfl) zlRX9_126 ⟨Nat.le_of_ble_eq_true rfl, Nat.le_of_ble_eq_true rfl⟩ dX9_way_16 hh0.1 rfl rfl z_a0 (Nat.le_of_ble_eq_true rfl) (Nat.le_of_ble_eq_true rfl) ⟨Nat.le_refl _, Nat.le_refl _⟩ (z_CIm h ?_)
      intro y5 w4 h
      show z_Sem mX9_way (sh.length, 0) 19 [(0, z_r 161), (1, z_i x1), (2, z_i x2), (3, z_i x3)] [z_i y5] (sh, w4) Q
      refine z_istore (L' := [(4, z_i y5), (0, z_r 161), (1, z_i x1), (2, z_i x2), (3, z_i x3)]) dX9_way_19 (by decide) rfl ?_
      refine z_iload_n 4 dX9_way_21 rfl rfl ?_
      refine z_aload_n 1 dX9_way_22 rfl rfl ?_
      refine z_iload_n 2 dX9_way_23 rfl rfl ?_
      refine z_iload_n 3 dX9_way_24 rfl rfl ?_
      refine z_callV (As := [z_i x1, z_i x2]) (rest := [z_i x3]) zmX9_laysWay znX9_laysWay zsX9_laysWay (show vwCl[9]? = some (RX9, TX9, 29) from rfl) zlRX9_286 ⟨Nat.le_of_ble_eq_true rfl, Nat.le_of_ble_eq_true rfl⟩ dX9_way_25 hh0.1 rfl rfl (z_ai (z_ai z_a0)) (Nat.le_of_ble_eq_true rfl) (Nat.le_of_ble_eq_true rfl) ⟨Nat.le_refl _, Nat.le_refl _⟩ (z_CIm h ?_)
      intro y7 w6 h
      show z_Sem mX9_way (sh.length, 0) 28 [(4, z_i y5), (0, z_r 161), (1, z_i x1), (2, z_i x2), (3, z_i x3)] [z_i y7, z_i x3] (sh, w6) Q
      obtain ⟨m10, h⟩ := h
      suffices hJ8 : z_Sem mX9_way (sh.length, 0) 42 [] [z_i (if y7 ≤ x3 then -2 else w6 174 x3)] (sh, w6) Q by
        refine z_icmp_ge (tgt := 40) dX9_way_28 (by decide) (fun c9 => ?_) (fun c9 => ?_)
        · skip
          refine z_bipush dX9_way_40 (by decide) (by decide) ?_
          refine z_sub (L' := []) [] rfl ?_
          simp only [if_pos c9] at hJ8
          exact hJ8
        · skip
          have ho12 := m10 c9
          refine z_aload_n 1 dX9_way_31 rfl rfl ?_
          refine z_getR (r := 174) zfRX9_52 dX9_way_32 hh0.1 rfl ?_
          refine z_iload_n 4 dX9_way_35 rfl rfl ?_
          obtain ⟨q13, ho12⟩ := ho12
          refine z_iald dX9_way_36 hh0.2.2.2.2.2.2.2.2.2.2.2.2.2.1 q13 ?_
          refine z_goto (tgt := 42) dX9_way_37 (by decide) ?_
          refine z_sub (L' := []) [] rfl ?_
          simp only [if_neg c9] at hJ8
          exact hJ8
      exact z_ret (v := some (z_i (if y7 ≤ x3 then -2 else w6 174 x3))) dX9_way_42 ⟨rfl, Or.inl rfl⟩ rfl rfl h
    · replace h := h.2 c3
      refine z_iconst dX9_way_13 (by decide) ?_
      exact z_ret (v := some (z_i (-1))) dX9_way_14 ⟨rfl, Or.inl rfl⟩ rfl rfl h
set_option maxRecDepth 100000 in
theorem t_X9_wayLength {sh : List z_C} {w : Nat → Int → Int} {Q : Option z_V → z_S → Prop} {x1 : Int} {x2 : Int} (hh0 : z_isMod sh 161) (h : (s_X9_areTwo w x1 x2) ∧ (((f_X9_areTwo w x1 x2) = 0 → Q (some (z_i (-1))) (sh, w)) ∧ (¬ (f_X9_areTwo w x1 x2) = 0 → z_CI mX9_lays [z_r 161] sh w (fun y4 w3 => z_CI mX9_laysWay [z_r 161, z_i x1, z_i x2] sh w3 (fun y6 w5 => Q (some (z_i y6)) (sh, w5)))))) : z_Sem mX9_wayLength (sh.length, 0) 0 [(0, z_r 161), (1, z_i x1), (2, z_i x2)] [] (sh, w) Q := by
  refine z_aload_n 0 dX9_wayLength_0 rfl rfl ?_
  refine z_iload_n 1 dX9_wayLength_1 rfl rfl ?_
  refine z_iload_n 2 dX9_wayLength_2 rfl rfl ?_
  obtain ⟨q1, h⟩ := h
  refine z_callV (As := [z_i x1, z_i x2]) (rest := []) zmX9_areTwo znX9_areTwo zsX9_areTwo (show vwCl[9]? = some (RX9, TX9, 29) from rfl) zlRX9_143 ⟨Nat.le_of_ble_eq_true rfl, Nat.le_of_ble_eq_true rfl⟩ dX9_wayLength_3 hh0.1 rfl rfl (z_ai (z_ai z_a0)) (Nat.le_of_ble_eq_true rfl) (Nat.le_of_ble_eq_true rfl) ⟨Nat.le_refl _, Nat.le_refl _⟩ ?_
  refine t_X9_areTwo hh0 q1 ?_
  show z_Sem mX9_wayLength (sh.length, 0) 6 [(0, z_r 161), (1, z_i x1), (2, z_i x2)] [z_i (f_X9_areTwo w x1 x2)] (sh, w) Q
  refine z_if_ne (tgt := 11) dX9_wayLength_6 (by decide) (fun c2 => ?_) (fun c2 => ?_)
  · replace h := h.2 c2
    refine z_aload_n 0 dX9_wayLength_11 rfl rfl ?_
    refine z_callV (As := []) (rest := []) zmX9_lays znX9_lays zsX9_lays (show vwCl[9]? = some (RX9, TX9, 29) from rfl) zlRX9_126 ⟨Nat.le_of_ble_eq_true rfl, Nat.le_of_ble_eq_true rfl⟩ dX9_wayLength_12 hh0.1 rfl rfl z_a0 (Nat.le_of_ble_eq_true rfl) (Nat.le_of_ble_eq_true rfl) ⟨Nat.le_refl _, Nat.le_refl _⟩ (z_CIm h ?_)
    intro y4 w3 h
    show z_Sem mX9_wayLength (sh.length, 0) 15 [(0, z_r 161), (1, z_i x1), (2, z_i x2)] [z_i y4] (sh, w3) Q
    refine z_istore_n (L' := [(3, z_i y4), (0, z_r 161), (1, z_i x1), (2, z_i x2)]) dX9_wayLength_15 rfl (by decide) rfl ?_
    refine z_aload_n 1 dX9_wayLength_16 rfl rfl ?_
    refine z_iload_n 2 dX9_wayLength_17 rfl rfl ?_
    refine z_iload_n 3 dX9_wayLength_18 rfl rfl ?_
    refine z_callV (As := [z_i x1, z_i x2]) (rest := []) zmX9_laysWay znX9_laysWay zsX9_laysWay (show vwCl[9]? = some (RX9, TX9, 29) from rfl) zlRX9_286 ⟨Nat.le_of_ble_eq_true rfl, Nat.le_of_ble_eq_true rfl⟩ dX9_wayLength_19 hh0.1 rfl rfl (z_ai (z_ai z_a0)) (Nat.le_of_ble_eq_true rfl) (Nat.le_of_ble_eq_true rfl) ⟨Nat.le_refl _, Nat.le_refl _⟩ (z_CIm h ?_)
    intro y6 w5 h
    show z_Sem mX9_wayLength (sh.length, 0) 22 [(3, z_i y4), (0, z_r 161), (1, z_i x1), (2, z_i x2)] [z_i y6] (sh, w5) Q
    exact z_ret (v := some (z_i y6)) dX9_wayLength_22 ⟨rfl, Or.inl rfl⟩ rfl rfl h
  · replace h := h.1 c2
    refine z_iconst dX9_wayLength_9 (by decide) ?_
    exact z_ret (v := some (z_i (-1))) dX9_wayLength_10 ⟨rfl, Or.inl rfl⟩ rfl rfl h
def f_X9_relationOf (w : Nat → Int → Int) (x1 : Int) (x2 : Int) : Int := if (f_X9_boundOf w x1 x2) = 0 then (if (f_X9_boundOf w x2 x1) = 0 then 0 else if 0 ≤ (f_X9_boundOf w x2 x1) then (if 0 ≤ (f_X9_boundOf w x1 x2) then (if (f_X9_boundOf w x2 x1) = 0 then 3 else if (f_X9_boundOf w x1 x2) = 0 then 4 else 5) else 2) else 1) else if 0 ≤ (f_X9_boundOf w x2 x1) then (if 0 ≤ (f_X9_boundOf w x1 x2) then (if (f_X9_boundOf w x2 x1) = 0 then 3 else if (f_X9_boundOf w x1 x2) = 0 then 4 else 5) else 2) else 1
def s_X9_relationOf (w : Nat → Int → Int) (x1 : Int) (x2 : Int) : Prop := (s_X9_boundOf w x1 x2) ∧ (s_X9_boundOf w x2 x1) ∧ True
set_option maxRecDepth 100000 in
theorem t_X9_relationOf {sh : List z_C} {w : Nat → Int → Int} {Q : Option z_V → z_S → Prop} {x1 : Int} {x2 : Int} (hh0 : z_isMod sh 161) (hs : s_X9_relationOf w x1 x2) (h : Q (some (z_i (f_X9_relationOf w x1 x2))) (sh, w)) : z_Sem mX9_relationOf (sh.length, 0) 0 [(0, z_r 161), (1, z_i x1), (2, z_i x2)] [] (sh, w) Q := by
  unfold f_X9_relationOf at h
  unfold s_X9_relationOf at hs
  refine z_aload_n 0 dX9_relationOf_0 rfl rfl ?_
  refine z_iload_n 1 dX9_relationOf_1 rfl rfl ?_
  refine z_iload_n 2 dX9_relationOf_2 rfl rfl ?_
  obtain ⟨q1, hs⟩ := hs
  refine z_callV (As := [z_i x1, z_i x2]) (rest := []) zmX9_boundOf znX9_boundOf zsX9_boundOf (show vwCl[9]? = some (RX9, TX9, 29) from rfl) zlRX9_113 ⟨Nat.le_of_ble_eq_true rfl, Nat.le_of_ble_eq_true rfl⟩ dX9_relationOf_3 hh0.1 rfl rfl (z_ai (z_ai z_a0)) (Nat.le_of_ble_eq_true rfl) (Nat.le_of_ble_eq_true rfl) ⟨Nat.le_refl _, Nat.le_refl _⟩ ?_
  refine t_X9_boundOf hh0 q1 ?_
  show z_Sem mX9_relationOf (sh.length, 0) 6 [(0, z_r 161), (1, z_i x1), (2, z_i x2)] [z_i (f_X9_boundOf w x1 x2)] (sh, w) Q
  refine z_istore_n (L' := [(3, z_i (f_X9_boundOf w x1 x2)), (0, z_r 161), (1, z_i x1), (2, z_i x2)]) dX9_relationOf_6 rfl (by decide) rfl ?_
  refine z_aload_n 1 dX9_relationOf_7 rfl rfl ?_
  refine z_iload_n 3 dX9_relationOf_8 rfl rfl ?_
  refine z_iload_n 2 dX9_relationOf_9 rfl rfl ?_
  obtain ⟨q2, hs⟩ := hs
  refine z_callV (As := [z_i x2, z_i x1]) (rest := []) zmX9_boundOf znX9_boundOf zsX9_boundOf (show vwCl[9]? = some (RX9, TX9, 29) from rfl) zlRX9_113 ⟨Nat.le_of_ble_eq_true rfl, Nat.le_of_ble_eq_true rfl⟩ dX9_relationOf_10 hh0.1 rfl rfl (z_ai (z_ai z_a0)) (Nat.le_of_ble_eq_true rfl) (Nat.le_of_ble_eq_true rfl) ⟨Nat.le_refl _, Nat.le_refl _⟩ ?_
  refine t_X9_boundOf hh0 q2 ?_
  show z_Sem mX9_relationOf (sh.length, 0) 13 [(3, z_i (f_X9_boundOf w x1 x2)), (0, z_r 161), (1, z_i x1), (2, z_i x2)] [z_i (f_X9_boundOf w x2 x1)] (sh, w) Q
  refine z_istore (L' := [(4, z_i (f_X9_boundOf w x2 x1)), (3, z_i (f_X9_boundOf w x1 x2)), (0, z_r 161), (1, z_i x1), (2, z_i x2)]) dX9_relationOf_13 (by decide) rfl ?_
  refine z_iload_n 1 dX9_relationOf_15 rfl rfl ?_
  refine z_if_ne (tgt := 26) dX9_relationOf_16 (by decide) (fun c3 => ?_) (fun c3 => ?_)
  · skip
    rw [if_neg c3] at h
    refine z_iload 0 dX9_relationOf_26 rfl ?_
    suffices hJ4 : z_Sem mX9_relationOf (sh.length, 0) 61 [] [z_i (if 0 ≤ (f_X9_boundOf w x2 x1) then (if 0 ≤ (f_X9_boundOf w x1 x2) then (if (f_X9_boundOf w x2 x1) = 0 then 3 else if (f_X9_boundOf w x1 x2) = 0 then 4 else 5) else 2) else 1)] (sh, w) Q by
      refine z_if_ge (tgt := 35) dX9_relationOf_28 (by decide) (fun c5 => ?_) (fun c5 => ?_)
      · skip
        refine z_iload_n 1 dX9_relationOf_35 rfl rfl ?_
        suffices hJ7 : z_Sem mX9_relationOf (sh.length, 0) 61 [] [z_i (if 0 ≤ (f_X9_boundOf w x1 x2) then (if (f_X9_boundOf w x2 x1) = 0 then 3 else if (f_X9_boundOf w x1 x2) = 0 then 4 else 5) else 2)] (sh, w) Q by
          refine z_if_ge (tgt := 43) dX9_relationOf_36 (by decide) (fun c8 => ?_) (fun c8 => ?_)
          · skip
            refine z_iload 0 dX9_relationOf_43 rfl ?_
            suffices hJ10 : z_Sem mX9_relationOf (sh.length, 0) 61 [] [z_i (if (f_X9_boundOf w x2 x1) = 0 then 3 else if (f_X9_boundOf w x1 x2) = 0 then 4 else 5)] (sh, w) Q by
              refine z_if_ne (tgt := 52) dX9_relationOf_45 (by decide) (fun c11 => ?_) (fun c11 => ?_)
              · skip
                refine z_iload_n 1 dX9_relationOf_52 rfl rfl ?_
                suffices hJ13 : z_Sem mX9_relationOf (sh.length, 0) 61 [] [z_i (if (f_X9_boundOf w x1 x2) = 0 then 4 else 5)] (sh, w) Q by
                  refine z_if_ne (tgt := 60) dX9_relationOf_53 (by decide) (fun c14 => ?_) (fun c14 => ?_)
                  · skip
                    refine z_iconst dX9_relationOf_60 (by decide) ?_
                    refine z_sub (L' := []) [] rfl ?_
                    simp only [if_neg c14] at hJ13
                    exact hJ13
                  · skip
                    refine z_iconst dX9_relationOf_56 (by decide) ?_
                    refine z_goto (tgt := 61) dX9_relationOf_57 (by decide) ?_
                    refine z_sub (L' := []) [] rfl ?_
                    simp only [if_pos c14] at hJ13
                    exact hJ13
                simp only [if_neg c11] at hJ10
                exact hJ10
              · skip
                refine z_iconst dX9_relationOf_48 (by decide) ?_
                refine z_goto (tgt := 61) dX9_relationOf_49 (by decide) ?_
                refine z_sub (L' := []) [] rfl ?_
                simp only [if_pos c11] at hJ10
                exact hJ10
            simp only [if_pos c8] at hJ7
            exact hJ7
          · skip
            refine z_iconst dX9_relationOf_39 (by decide) ?_
            refine z_goto (tgt := 61) dX9_relationOf_40 (by decide) ?_
            refine z_sub (L' := []) [] rfl ?_
            simp only [if_neg c8] at hJ7
            exact hJ7
        simp only [if_pos c5] at hJ4
        exact hJ4
      · skip
        refine z_iconst dX9_relationOf_31 (by decide) ?_
        refine z_goto (tgt := 61) dX9_relationOf_32 (by decide) ?_
        refine z_sub (L' := []) [] rfl ?_
        simp only [if_neg c5] at hJ4
        exact hJ4
    exact z_ret (v := some (z_i (if 0 ≤ (f_X9_boundOf w x2 x1) then (if 0 ≤ (f_X9_boundOf w x1 x2) then (if (f_X9_boundOf w x2 x1) = 0 then 3 else if (f_X9_boundOf w x1 x2) = 0 then 4 else 5) else 2) else 1))) dX9_relationOf_61 ⟨rfl, Or.inl rfl⟩ rfl rfl h
  · skip
    rw [if_pos c3] at h
    refine z_iload 0 dX9_relationOf_19 rfl ?_
    refine z_if_ne (tgt := 26) dX9_relationOf_21 (by decide) (fun c20 => ?_) (fun c20 => ?_)
    · skip
      rw [if_neg c20] at h
      refine z_iload 0 dX9_relationOf_26 rfl ?_
      suffices hJ21 : z_Sem mX9_relationOf (sh.length, 0) 61 [] [z_i (if 0 ≤ (f_X9_boundOf w x2 x1) then (if 0 ≤ (f_X9_boundOf w x1 x2) then (if (f_X9_boundOf w x2 x1) = 0 then 3 else if (f_X9_boundOf w x1 x2) = 0 then 4 else 5) else 2) else 1)] (sh, w) Q by
        refine z_if_ge (tgt := 35) dX9_relationOf_28 (by decide) (fun c22 => ?_) (fun c22 => ?_)
        · skip
          refine z_iload_n 1 dX9_relationOf_35 rfl rfl ?_
          suffices hJ24 : z_Sem mX9_relationOf (sh.length, 0) 61 [] [z_i (if 0 ≤ (f_X9_boundOf w x1 x2) then (if (f_X9_boundOf w x2 x1) = 0 then 3 else if (f_X9_boundOf w x1 x2) = 0 then 4 else 5) else 2)] (sh, w) Q by
            refine z_if_ge (tgt := 43) dX9_relationOf_36 (by decide) (fun c25 => ?_) (fun c25 => ?_)
            · skip
              refine z_iload 0 dX9_relationOf_43 rfl ?_
              suffices hJ27 : z_Sem mX9_relationOf (sh.length, 0) 61 [] [z_i (if (f_X9_boundOf w x2 x1) = 0 then 3 else if (f_X9_boundOf w x1 x2) = 0 then 4 else 5)] (sh, w) Q by
                refine z_if_ne (tgt := 52) dX9_relationOf_45 (by decide) (fun c28 => ?_) (fun c28 => ?_)
                · skip
                  refine z_iload_n 1 dX9_relationOf_52 rfl rfl ?_
                  suffices hJ30 : z_Sem mX9_relationOf (sh.length, 0) 61 [] [z_i (if (f_X9_boundOf w x1 x2) = 0 then 4 else 5)] (sh, w) Q by
                    refine z_if_ne (tgt := 60) dX9_relationOf_53 (by decide) (fun c31 => ?_) (fun c31 => ?_)
                    · skip
                      refine z_iconst dX9_relationOf_60 (by decide) ?_
                      refine z_sub (L' := []) [] rfl ?_
                      simp only [if_neg c31] at hJ30
                      exact hJ30
                    · skip
                      refine z_iconst dX9_relationOf_56 (by decide) ?_
                      refine z_goto (tgt := 61) dX9_relationOf_57 (by decide) ?_
                      refine z_sub (L' := []) [] rfl ?_
                      simp only [if_pos c31] at hJ30
                      exact hJ30
                  simp only [if_neg c28] at hJ27
                  exact hJ27
                · skip
                  refine z_iconst dX9_relationOf_48 (by decide) ?_
                  refine z_goto (tgt := 61) dX9_relationOf_49 (by decide) ?_
                  refine z_sub (L' := []) [] rfl ?_
                  simp only [if_pos c28] at hJ27
                  exact hJ27
              simp only [if_pos c25] at hJ24
              exact hJ24
            · skip
              refine z_iconst dX9_relationOf_39 (by decide) ?_
              refine z_goto (tgt := 61) dX9_relationOf_40 (by decide) ?_
              refine z_sub (L' := []) [] rfl ?_
              simp only [if_neg c25] at hJ24
              exact hJ24
          simp only [if_pos c22] at hJ21
          exact hJ21
        · skip
          refine z_iconst dX9_relationOf_31 (by decide) ?_
          refine z_goto (tgt := 61) dX9_relationOf_32 (by decide) ?_
          refine z_sub (L' := []) [] rfl ?_
          simp only [if_neg c22] at hJ21
          exact hJ21
      exact z_ret (v := some (z_i (if 0 ≤ (f_X9_boundOf w x2 x1) then (if 0 ≤ (f_X9_boundOf w x1 x2) then (if (f_X9_boundOf w x2 x1) = 0 then 3 else if (f_X9_boundOf w x1 x2) = 0 then 4 else 5) else 2) else 1))) dX9_relationOf_61 ⟨rfl, Or.inl rfl⟩ rfl rfl h
    · skip
      rw [if_pos c20] at h
      refine z_iconst dX9_relationOf_24 (by decide) ?_
      exact z_ret (v := some (z_i 0)) dX9_relationOf_25 ⟨rfl, Or.inl rfl⟩ rfl rfl h
set_option maxRecDepth 100000 in
theorem t_X9_relation {sh : List z_C} {w : Nat → Int → Int} {Q : Option z_V → z_S → Prop} {x1 : Int} {x2 : Int} (hh0 : z_isMod sh 161) (h : (s_X9_areTwo w x1 x2) ∧ (((f_X9_areTwo w x1 x2) = 0 → Q (some (z_i (-1))) (sh, w)) ∧ (¬ (f_X9_areTwo w x1 x2) = 0 → z_CI mX9_lays [z_r 161] sh w (fun y4 w3 => (s_X9_relationOf w3 x1 x2) ∧ Q (some (z_i (f_X9_relationOf w3 x1 x2))) (sh, w3))))) : z_Sem mX9_relation (sh.length, 0) 0 [(0, z_r 161), (1, z_i x1), (2, z_i x2)] [] (sh, w) Q := by
  refine z_aload_n 0 dX9_relation_0 rfl rfl ?_
  refine z_iload_n 1 dX9_relation_1 rfl rfl ?_
  refine z_iload_n 2 dX9_relation_2 rfl rfl ?_
  obtain ⟨q1, h⟩ := h
  refine z_callV (As := [z_i x1, z_i x2]) (rest := []) zmX9_areTwo znX9_areTwo zsX9_areTwo (show vwCl[9]? = some (RX9, TX9, 29) from rfl) zlRX9_143 ⟨Nat.le_of_ble_eq_true rfl, Nat.le_of_ble_eq_true rfl⟩ dX9_relation_3 hh0.1 rfl rfl (z_ai (z_ai z_a0)) (Nat.le_of_ble_eq_true rfl) (Nat.le_of_ble_eq_true rfl) ⟨Nat.le_refl _, Nat.le_refl _⟩ ?_
  refine t_X9_areTwo hh0 q1 ?_
  show z_Sem mX9_relation (sh.length, 0) 6 [(0, z_r 161), (1, z_i x1), (2, z_i x2)] [z_i (f_X9_areTwo w x1 x2)] (sh, w) Q
  refine z_if_ne (tgt := 11) dX9_relation_6 (by decide) (fun c2 => ?_) (fun c2 => ?_)
  · replace h := h.2 c2
    refine z_aload_n 0 dX9_relation_11 rfl rfl ?_
    refine z_callV (As := []) (rest := []) zmX9_lays znX9_lays zsX9_lays (show vwCl[9]? = some (RX9, TX9, 29) from rfl) zlRX9_126 ⟨Nat.le_of_ble_eq_true rfl, Nat.le_of_ble_eq_true rfl⟩ dX9_relation_12 hh0.1 rfl rfl z_a0 (Nat.le_of_ble_eq_true rfl) (Nat.le_of_ble_eq_true rfl) ⟨Nat.le_refl _, Nat.le_refl _⟩ (z_CIm h ?_)
    intro y4 w3 h
    show z_Sem mX9_relation (sh.length, 0) 15 [(0, z_r 161), (1, z_i x1), (2, z_i x2)] [z_i y4] (sh, w3) Q
    refine z_istore_n (L' := [(3, z_i y4), (0, z_r 161), (1, z_i x1), (2, z_i x2)]) dX9_relation_15 rfl (by decide) rfl ?_
    refine z_aload_n 1 dX9_relation_16 rfl rfl ?_
    refine z_iload_n 2 dX9_relation_17 rfl rfl ?_
    refine z_iload_n 3 dX9_relation_18 rfl rfl ?_
    obtain ⟨q5, h⟩ := h
    refine z_callV (As := [z_i x1, z_i x2]) (rest := []) zmX9_relationOf znX9_relationOf zsX9_relationOf (show vwCl[9]? = some (RX9, TX9, 29) from rfl) zlRX9_289 ⟨Nat.le_of_ble_eq_true rfl, Nat.le_of_ble_eq_true rfl⟩ dX9_relation_19 hh0.1 rfl rfl (z_ai (z_ai z_a0)) (Nat.le_of_ble_eq_true rfl) (Nat.le_of_ble_eq_true rfl) ⟨Nat.le_refl _, Nat.le_refl _⟩ ?_
    refine t_X9_relationOf hh0 q5 ?_
    show z_Sem mX9_relation (sh.length, 0) 22 [(3, z_i y4), (0, z_r 161), (1, z_i x1), (2, z_i x2)] [z_i (f_X9_relationOf w3 x1 x2)] (sh, w3) Q
    exact z_ret (v := some (z_i (f_X9_relationOf w3 x1 x2))) dX9_relation_22 ⟨rfl, Or.inl rfl⟩ rfl rfl h
  · replace h := h.1 c2
    refine z_iconst dX9_relation_9 (by decide) ?_
    exact z_ret (v := some (z_i (-1))) dX9_relation_10 ⟨rfl, Or.inl rfl⟩ rfl rfl h
set_option maxRecDepth 100000 in
theorem t_X9_play {sh : List z_C} {w : Nat → Int → Int} {Q : Option z_V → z_S → Prop} {x1 : Int} {x2 : Int} (hh0 : z_isMod sh 161) (h : (s_X9_areTwo w x1 x2) ∧ (((f_X9_areTwo w x1 x2) = 0 → Q (some (z_i (-1))) (sh, w)) ∧ (¬ (f_X9_areTwo w x1 x2) = 0 → z_CI mX9_lays [z_r 161] sh w (fun y4 w3 => (s_X9_boundOf w3 x1 x2) ∧ (s_X9_boundOf w3 x2 x1) ∧ (z_R ((f_X9_boundOf w3 x1 x2) + (f_X9_boundOf w3 x2 x1))) ∧ Q (some (z_i ((f_X9_boundOf w3 x1 x2) + (f_X9_boundOf w3 x2 x1)))) (sh, w3))))) : z_Sem mX9_play (sh.length, 0) 0 [(0, z_r 161), (1, z_i x1), (2, z_i x2)] [] (sh, w) Q := by
  refine z_aload_n 0 dX9_play_0 rfl rfl ?_
  refine z_iload_n 1 dX9_play_1 rfl rfl ?_
  refine z_iload_n 2 dX9_play_2 rfl rfl ?_
  obtain ⟨q1, h⟩ := h
  refine z_callV (As := [z_i x1, z_i x2]) (rest := []) zmX9_areTwo znX9_areTwo zsX9_areTwo (show vwCl[9]? = some (RX9, TX9, 29) from rfl) zlRX9_143 ⟨Nat.le_of_ble_eq_true rfl, Nat.le_of_ble_eq_true rfl⟩ dX9_play_3 hh0.1 rfl rfl (z_ai (z_ai z_a0)) (Nat.le_of_ble_eq_true rfl) (Nat.le_of_ble_eq_true rfl) ⟨Nat.le_refl _, Nat.le_refl _⟩ ?_
  refine t_X9_areTwo hh0 q1 ?_
  show z_Sem mX9_play (sh.length, 0) 6 [(0, z_r 161), (1, z_i x1), (2, z_i x2)] [z_i (f_X9_areTwo w x1 x2)] (sh, w) Q
  refine z_if_ne (tgt := 11) dX9_play_6 (by decide) (fun c2 => ?_) (fun c2 => ?_)
  · replace h := h.2 c2
    refine z_aload_n 0 dX9_play_11 rfl rfl ?_
    refine z_callV (As := []) (rest := []) zmX9_lays znX9_lays zsX9_lays (show vwCl[9]? = some (RX9, TX9, 29) from rfl) zlRX9_126 ⟨Nat.le_of_ble_eq_true rfl, Nat.le_of_ble_eq_true rfl⟩ dX9_play_12 hh0.1 rfl rfl z_a0 (Nat.le_of_ble_eq_true rfl) (Nat.le_of_ble_eq_true rfl) ⟨Nat.le_refl _, Nat.le_refl _⟩ (z_CIm h ?_)
    intro y4 w3 h
    show z_Sem mX9_play (sh.length, 0) 15 [(0, z_r 161), (1, z_i x1), (2, z_i x2)] [z_i y4] (sh, w3) Q
    refine z_istore_n (L' := [(3, z_i y4), (0, z_r 161), (1, z_i x1), (2, z_i x2)]) dX9_play_15 rfl (by decide) rfl ?_
    refine z_aload_n 1 dX9_play_16 rfl rfl ?_
    refine z_iload_n 2 dX9_play_17 rfl rfl ?_
    refine z_iload_n 3 dX9_play_18 rfl rfl ?_
    obtain ⟨q5, h⟩ := h
    refine z_callV (As := [z_i x1, z_i x2]) (rest := []) zmX9_boundOf znX9_boundOf zsX9_boundOf (show vwCl[9]? = some (RX9, TX9, 29) from rfl) zlRX9_113 ⟨Nat.le_of_ble_eq_true rfl, Nat.le_of_ble_eq_true rfl⟩ dX9_play_19 hh0.1 rfl rfl (z_ai (z_ai z_a0)) (Nat.le_of_ble_eq_true rfl) (Nat.le_of_ble_eq_true rfl) ⟨Nat.le_refl _, Nat.le_refl _⟩ ?_
    refine t_X9_boundOf hh0 q5 ?_
    show z_Sem mX9_play (sh.length, 0) 22 [(3, z_i y4), (0, z_r 161), (1, z_i x1), (2, z_i x2)] [z_i (f_X9_boundOf w3 x1 x2)] (sh, w3) Q
    refine z_aload_n 1 dX9_play_22 rfl rfl ?_
    refine z_iload_n 3 dX9_play_23 rfl rfl ?_
    refine z_iload_n 2 dX9_play_24 rfl rfl ?_
    obtain ⟨q6, h⟩ := h
    refine z_callV (As := [z_i x2, z_i x1]) (rest := [z_i (f_X9_boundOf w3 x1 x2)]) zmX9_boundOf znX9_boundOf zsX9_boundOf (show vwCl[9]? = some (RX9, TX9, 29) from rfl) zlRX9_113 ⟨Nat.le_of_ble_eq_true rfl, Nat.le_of_ble_eq_true rfl⟩ dX9_play_25 hh0.1 rfl rfl (z_ai (z_ai z_a0)) (Nat.le_of_ble_eq_true rfl) (Nat.le_of_ble_eq_true rfl) ⟨Nat.le_refl _, Nat.le_refl _⟩ ?_
    refine t_X9_boundOf hh0 q6 ?_
    show z_Sem mX9_play (sh.length, 0) 28 [(3, z_i y4), (0, z_r 161), (1, z_i x1), (2, z_i x2)] [z_i (f_X9_boundOf w3 x2 x1), z_i (f_X9_boundOf w3 x1 x2)] (sh, w3) Q
    obtain ⟨q7, h⟩ := h
    refine z_iadd dX9_play_28 q7 ?_
    exact z_ret (v := some (z_i ((f_X9_boundOf w3 x1 x2) + (f_X9_boundOf w3 x2 x1)))) dX9_play_29 ⟨rfl, Or.inl rfl⟩ rfl rfl h
  · replace h := h.1 c2
    refine z_iconst dX9_play_9 (by decide) ?_
    exact z_ret (v := some (z_i (-1))) dX9_play_10 ⟨rfl, Or.inl rfl⟩ rfl rfl h
set_option maxRecDepth 100000 in
theorem t_X9_pairs {sh : List z_C} {w : Nat → Int → Int} {Q : Option z_V → z_S → Prop} {x1 : Int} (hh0 : z_isMod sh 161) (h : (((f_X9_in w x1 0 5) = 0 → Q (some (z_i (-1))) (sh, w)) ∧ (¬ (f_X9_in w x1 0 5) = 0 → z_CI mX9_lays [z_r 161] sh w (fun y3 w2 => z_Sem mX9_pairs (sh.length, 0) 21 [(0, z_r 161), (1, z_i x1), (3, z_i 0), (4, z_i 0)] [] (sh, w2) Q)))) : z_Sem mX9_pairs (sh.length, 0) 0 [(0, z_r 161), (1, z_i x1)] [] (sh, w) Q := by
  refine z_iload_n 1 dX9_pairs_0 rfl rfl ?_
  refine z_iconst dX9_pairs_1 (by decide) ?_
  refine z_iconst dX9_pairs_2 (by decide) ?_
  refine z_callS (As := [z_i x1, z_i 0, z_i 5]) (rest := []) zmX9_in ztX9_in zlRX9_65 ⟨Nat.le_of_ble_eq_true rfl, Nat.le_of_ble_eq_true rfl⟩ dX9_pairs_3 rfl rfl (z_ai (z_ai (z_ai z_a0))) (Nat.le_of_ble_eq_true rfl) (Nat.le_of_ble_eq_true rfl) ⟨Nat.le_refl _, Nat.le_refl _⟩ ?_
  refine t_X9_in  ?_
  show z_Sem mX9_pairs (sh.length, 0) 6 [(0, z_r 161), (1, z_i x1)] [z_i (f_X9_in w x1 0 5)] (sh, w) Q
  refine z_if_ne (tgt := 11) dX9_pairs_6 (by decide) (fun c1 => ?_) (fun c1 => ?_)
  · replace h := h.2 c1
    refine z_aload_n 0 dX9_pairs_11 rfl rfl ?_
    refine z_callV (As := []) (rest := []) zmX9_lays znX9_lays zsX9_lays (show vwCl[9]? = some (RX9, TX9, 29) from rfl) zlRX9_126 ⟨Nat.le_of_ble_eq_true rfl, Nat.le_of_ble_eq_true rfl⟩ dX9_pairs_12 hh0.1 rfl rfl z_a0 (Nat.le_of_ble_eq_true rfl) (Nat.le_of_ble_eq_true rfl) ⟨Nat.le_refl _, Nat.le_refl _⟩ (z_CIm h ?_)
    intro y3 w2 h
    show z_Sem mX9_pairs (sh.length, 0) 15 [(0, z_r 161), (1, z_i x1)] [z_i y3] (sh, w2) Q
    refine z_istore_n (L' := [(2, z_i y3), (0, z_r 161), (1, z_i x1)]) dX9_pairs_15 rfl (by decide) rfl ?_
    refine z_iconst dX9_pairs_16 (by decide) ?_
    refine z_istore_n (L' := [(3, z_i 0), (2, z_i y3), (0, z_r 161), (1, z_i x1)]) dX9_pairs_17 rfl (by decide) rfl ?_
    refine z_iconst dX9_pairs_18 (by decide) ?_
    refine z_istore (L' := [(4, z_i 0), (3, z_i 0), (2, z_i y3), (0, z_r 161), (1, z_i x1)]) dX9_pairs_19 (by decide) rfl ?_
    refine z_sub (L' := [(0, z_r 161), (1, z_i x1), (3, z_i 0), (4, z_i 0)]) [3, 4, 1, 0] rfl ?_
    exact h
  · replace h := h.1 c1
    refine z_iconst dX9_pairs_9 (by decide) ?_
    exact z_ret (v := some (z_i (-1))) dX9_pairs_10 ⟨rfl, Or.inl rfl⟩ rfl rfl h
set_option maxRecDepth 100000 in
theorem t_X9_pairs_21 {sh : List z_C} {w : Nat → Int → Int} {Q : Option z_V → z_S → Prop} {x1 : Int} {x3 : Int} {x4 : Int} (hh0 : z_isMod sh 161) (h : (((w 163 1) ≤ x4 → Q (some (z_i x3)) (sh, w)) ∧ (¬ (w 163 1) ≤ x4 → (z_R (x4 + 1)) ∧ z_Sem mX9_pairs (sh.length, 0) 38 [(0, z_r 161), (1, z_i x1), (3, z_i x3), (4, z_i x4), (5, z_i (x4 + 1))] [] (sh, w) Q))) : z_Sem mX9_pairs (sh.length, 0) 21 [(0, z_r 161), (1, z_i x1), (3, z_i x3), (4, z_i x4)] [] (sh, w) Q := by
  refine z_iload 3 dX9_pairs_21 rfl ?_
  refine z_aload_n 0 dX9_pairs_23 rfl rfl ?_
  refine z_getR (r := 163) zfRX9_17 dX9_pairs_24 hh0.1 rfl ?_
  refine z_iconst dX9_pairs_27 (by decide) ?_
  refine z_iald dX9_pairs_28 hh0.2.2.1 (by decide) ?_
  refine z_icmp_ge (tgt := 81) dX9_pairs_29 (by decide) (fun c1 => ?_) (fun c1 => ?_)
  · replace h := h.1 c1
    refine z_iload_n 2 dX9_pairs_81 rfl rfl ?_
    exact z_ret (v := some (z_i x3)) dX9_pairs_82 ⟨rfl, Or.inl rfl⟩ rfl rfl h
  · replace h := h.2 c1
    refine z_iload 3 dX9_pairs_32 rfl ?_
    refine z_iconst dX9_pairs_34 (by decide) ?_
    obtain ⟨q2, h⟩ := h
    refine z_iadd dX9_pairs_35 q2 ?_
    refine z_istore (L' := [(5, z_i (x4 + 1)), (0, z_r 161), (1, z_i x1), (3, z_i x3), (4, z_i x4)]) dX9_pairs_36 (by decide) rfl ?_
    refine z_sub (L' := [(0, z_r 161), (1, z_i x1), (3, z_i x3), (4, z_i x4), (5, z_i (x4 + 1))]) [1, 2, 3, 4, 0] rfl ?_
    exact h
set_option maxRecDepth 100000 in
theorem t_X9_pairs_38 {sh : List z_C} {w : Nat → Int → Int} {Q : Option z_V → z_S → Prop} {x1 : Int} {x3 : Int} {x4 : Int} {x5 : Int} (hh0 : z_isMod sh 161) (h : (((w 163 1) ≤ x5 → (z_R (x4 + 1)) ∧ z_Sem mX9_pairs (sh.length, 0) 21 [(0, z_r 161), (1, z_i x1), (3, z_i x3), (4, z_i (x4 + 1))] [] (sh, w) Q) ∧ (¬ (w 163 1) ≤ x5 → (s_X9_relationOf w x4 x5) ∧ (z_R (x3 + (if (f_X9_relationOf w x4 x5) = x1 then 1 else 0))) ∧ ∀ y9 : Int, y9 = (x3 + (if (f_X9_relationOf w x4 x5) = x1 then 1 else 0)) → (z_R (x5 + 1)) ∧ z_Sem mX9_pairs (sh.length, 0) 38 [(0, z_r 161), (1, z_i x1), (3, z_i y9), (4, z_i x4), (5, z_i (x5 + 1))] [] (sh, w) Q))) : z_Sem mX9_pairs (sh.length, 0) 38 [(0, z_r 161), (1, z_i x1), (3, z_i x3), (4, z_i x4), (5, z_i x5)] [] (sh, w) Q := by
  refine z_iload 4 dX9_pairs_38 rfl ?_
  refine z_aload_n 0 dX9_pairs_40 rfl rfl ?_
  refine z_getR (r := 163) zfRX9_17 dX9_pairs_41 hh0.1 rfl ?_
  refine z_iconst dX9_pairs_44 (by decide) ?_
  refine z_iald dX9_pairs_45 hh0.2.2.1 (by decide) ?_
  refine z_icmp_ge (tgt := 75) dX9_pairs_46 (by decide) (fun c1 => ?_) (fun c1 => ?_)
  · replace h := h.1 c1
    obtain ⟨q2, h⟩ := h
    refine z_iinc (L' := [(4, z_i (x4 + 1)), (0, z_r 161), (1, z_i x1), (3, z_i x3), (5, z_i x5)]) 3 dX9_pairs_75 rfl (by decide) rfl q2 ?_
    refine z_goto (tgt := 21) dX9_pairs_78 (by decide) ?_
    refine z_sub (L' := [(0, z_r 161), (1, z_i x1), (3, z_i x3), (4, z_i (x4 + 1))]) [1, 2, 3, 0] rfl ?_
    exact h
  · replace h := h.2 c1
    refine z_iload_n 2 dX9_pairs_49 rfl rfl ?_
    refine z_aload_n 0 dX9_pairs_50 rfl rfl ?_
    refine z_iload 3 dX9_pairs_51 rfl ?_
    refine z_iload 4 dX9_pairs_53 rfl ?_
    obtain ⟨q3, h⟩ := h
    refine z_callV (As := [z_i x4, z_i x5]) (rest := [z_i x3]) zmX9_relationOf znX9_relationOf zsX9_relationOf (show vwCl[9]? = some (RX9, TX9, 29) from rfl) zlRX9_289 ⟨Nat.le_of_ble_eq_true rfl, Nat.le_of_ble_eq_true rfl⟩ dX9_pairs_55 hh0.1 rfl rfl (z_ai (z_ai z_a0)) (Nat.le_of_ble_eq_true rfl) (Nat.le_of_ble_eq_true rfl) ⟨Nat.le_refl _, Nat.le_refl _⟩ ?_
    refine t_X9_relationOf hh0 q3 ?_
    show z_Sem mX9_pairs (sh.length, 0) 58 [(0, z_r 161), (1, z_i x1), (3, z_i x3), (4, z_i x4), (5, z_i x5)] [z_i (f_X9_relationOf w x4 x5), z_i x3] (sh, w) Q
    refine z_iload_n 1 dX9_pairs_58 rfl rfl ?_
    suffices hJ4 : z_Sem mX9_pairs (sh.length, 0) 67 [(0, z_r 161), (1, z_i x1), (4, z_i x4), (5, z_i x5)] [z_i (if (f_X9_relationOf w x4 x5) = x1 then 1 else 0), z_i x3] (sh, w) Q by
      refine z_icmp_ne (tgt := 66) dX9_pairs_59 (by decide) (fun c5 => ?_) (fun c5 => ?_)
      · skip
        refine z_iconst dX9_pairs_66 (by decide) ?_
        refine z_sub (L' := [(0, z_r 161), (1, z_i x1), (4, z_i x4), (5, z_i x5)]) [0, 1, 3, 4] rfl ?_
        simp only [if_neg c5] at hJ4
        exact hJ4
      · skip
        refine z_iconst dX9_pairs_62 (by decide) ?_
        refine z_goto (tgt := 67) dX9_pairs_63 (by decide) ?_
        refine z_sub (L' := [(0, z_r 161), (1, z_i x1), (4, z_i x4), (5, z_i x5)]) [0, 1, 3, 4] rfl ?_
        simp only [if_pos c5] at hJ4
        exact hJ4
    obtain ⟨q8, h⟩ := h
    refine z_iadd dX9_pairs_67 q8 ?_
    refine z_nam (fun y9 hy9 => ?_)
    replace h := h y9 hy9
    refine z_istore_n (L' := [(3, z_i y9), (0, z_r 161), (1, z_i x1), (4, z_i x4), (5, z_i x5)]) dX9_pairs_68 rfl (by decide) rfl ?_
    obtain ⟨q10, h⟩ := h
    refine z_iinc (L' := [(5, z_i (x5 + 1)), (3, z_i y9), (0, z_r 161), (1, z_i x1), (4, z_i x4)]) 4 dX9_pairs_69 rfl (by decide) rfl q10 ?_
    refine z_goto (tgt := 38) dX9_pairs_72 (by decide) ?_
    refine z_sub (L' := [(0, z_r 161), (1, z_i x1), (3, z_i y9), (4, z_i x4), (5, z_i (x5 + 1))]) [2, 3, 1, 4, 0] rfl ?_
    exact h
set_option maxRecDepth 100000 in
theorem t_X9_direct {sh : List z_C} {w : Nat → Int → Int} {Q : Option z_V → z_S → Prop} {x1 : Int} {x2 : Int} (hh0 : z_isMod sh 161) (h : (s_X9_areTwo w x1 x2) ∧ (((f_X9_areTwo w x1 x2) = 0 → Q (some (z_i (-1))) (sh, w)) ∧ (¬ (f_X9_areTwo w x1 x2) = 0 → z_CI mX9_lays [z_r 161] sh w (fun y4 w3 => z_Sem mX9_direct (sh.length, 0) 19 [(0, z_r 161), (1, z_i x1), (2, z_i x2), (4, z_i 0)] [] (sh, w3) Q)))) : z_Sem mX9_direct (sh.length, 0) 0 [(0, z_r 161), (1, z_i x1), (2, z_i x2)] [] (sh, w) Q := by
  refine z_aload_n 0 dX9_direct_0 rfl rfl ?_
  refine z_iload_n 1 dX9_direct_1 rfl rfl ?_
  refine z_iload_n 2 dX9_direct_2 rfl rfl ?_
  obtain ⟨q1, h⟩ := h
  refine z_callV (As := [z_i x1, z_i x2]) (rest := []) zmX9_areTwo znX9_areTwo zsX9_areTwo (show vwCl[9]? = some (RX9, TX9, 29) from rfl) zlRX9_143 ⟨Nat.le_of_ble_eq_true rfl, Nat.le_of_ble_eq_true rfl⟩ dX9_direct_3 hh0.1 rfl rfl (z_ai (z_ai z_a0)) (Nat.le_of_ble_eq_true rfl) (Nat.le_of_ble_eq_true rfl) ⟨Nat.le_refl _, Nat.le_refl _⟩ ?_
  refine t_X9_areTwo hh0 q1 ?_
  show z_Sem mX9_direct (sh.length, 0) 6 [(0, z_r 161), (1, z_i x1), (2, z_i x2)] [z_i (f_X9_areTwo w x1 x2)] (sh, w) Q
  refine z_if_ne (tgt := 11) dX9_direct_6 (by decide) (fun c2 => ?_) (fun c2 => ?_)
  · replace h := h.2 c2
    refine z_aload_n 0 dX9_direct_11 rfl rfl ?_
    refine z_callV (As := []) (rest := []) zmX9_lays znX9_lays zsX9_lays (show vwCl[9]? = some (RX9, TX9, 29) from rfl) zlRX9_126 ⟨Nat.le_of_ble_eq_true rfl, Nat.le_of_ble_eq_true rfl⟩ dX9_direct_12 hh0.1 rfl rfl z_a0 (Nat.le_of_ble_eq_true rfl) (Nat.le_of_ble_eq_true rfl) ⟨Nat.le_refl _, Nat.le_refl _⟩ (z_CIm h ?_)
    intro y4 w3 h
    show z_Sem mX9_direct (sh.length, 0) 15 [(0, z_r 161), (1, z_i x1), (2, z_i x2)] [z_i y4] (sh, w3) Q
    refine z_istore_n (L' := [(3, z_i y4), (0, z_r 161), (1, z_i x1), (2, z_i x2)]) dX9_direct_15 rfl (by decide) rfl ?_
    refine z_iconst dX9_direct_16 (by decide) ?_
    refine z_istore (L' := [(4, z_i 0), (3, z_i y4), (0, z_r 161), (1, z_i x1), (2, z_i x2)]) dX9_direct_17 (by decide) rfl ?_
    refine z_sub (L' := [(0, z_r 161), (1, z_i x1), (2, z_i x2), (4, z_i 0)]) [2, 3, 4, 0] rfl ?_
    exact h
  · replace h := h.1 c2
    refine z_iconst dX9_direct_9 (by decide) ?_
    exact z_ret (v := some (z_i (-1))) dX9_direct_10 ⟨rfl, Or.inl rfl⟩ rfl rfl h
set_option maxRecDepth 100000 in
theorem t_X9_direct_19 {sh : List z_C} {w : Nat → Int → Int} {Q : Option z_V → z_S → Prop} {x1 : Int} {x2 : Int} {x4 : Int} (hh0 : z_isMod sh 161) (h : (((w 163 2) ≤ x4 → Q (some (z_i (-2))) (sh, w)) ∧ (¬ (w 163 2) ≤ x4 → (s_X9_isTight w x4) ∧ (((f_X9_isTight w x4) = 0 → (z_R (x4 + 1)) ∧ z_Sem mX9_direct (sh.length, 0) 19 [(0, z_r 161), (1, z_i x1), (2, z_i x2), (4, z_i (x4 + 1))] [] (sh, w) Q) ∧ (¬ (f_X9_isTight w x4) = 0 → (s_X9_fromOf w x4) ∧ (((f_X9_fromOf w x4) = x1 → (s_X9_toOf w x4) ∧ (((f_X9_toOf w x4) = x2 → Q (some (z_i x4)) (sh, w)) ∧ (¬ (f_X9_toOf w x4) = x2 → (z_R (x4 + 1)) ∧ z_Sem mX9_direct (sh.length, 0) 19 [(0, z_r 161), (1, z_i x1), (2, z_i x2), (4, z_i (x4 + 1))] [] (sh, w) Q))) ∧ (¬ (f_X9_fromOf w x4) = x1 → (z_R (x4 + 1)) ∧ z_Sem mX9_direct (sh.length, 0) 19 [(0, z_r 161), (1, z_i x1), (2, z_i x2), (4, z_i (x4 + 1))] [] (sh, w) Q))))))) : z_Sem mX9_direct (sh.length, 0) 19 [(0, z_r 161), (1, z_i x1), (2, z_i x2), (4, z_i x4)] [] (sh, w) Q := by
  refine z_iload 3 dX9_direct_19 rfl ?_
  refine z_aload_n 0 dX9_direct_21 rfl rfl ?_
  refine z_getR (r := 163) zfRX9_17 dX9_direct_22 hh0.1 rfl ?_
  refine z_iconst dX9_direct_25 (by decide) ?_
  refine z_iald dX9_direct_26 hh0.2.2.1 (by decide) ?_
  refine z_icmp_ge (tgt := 68) dX9_direct_27 (by decide) (fun c1 => ?_) (fun c1 => ?_)
  · replace h := h.1 c1
    refine z_bipush dX9_direct_68 (by decide) (by decide) ?_
    exact z_ret (v := some (z_i (-2))) dX9_direct_70 ⟨rfl, Or.inl rfl⟩ rfl rfl h
  · replace h := h.2 c1
    refine z_aload_n 0 dX9_direct_30 rfl rfl ?_
    refine z_iload 3 dX9_direct_31 rfl ?_
    obtain ⟨q2, h⟩ := h
    refine z_callV (As := [z_i x4]) (rest := []) zmX9_isTight znX9_isTight zsX9_isTight (show vwCl[9]? = some (RX9, TX9, 29) from rfl) zlRX9_130 ⟨Nat.le_of_ble_eq_true rfl, Nat.le_of_ble_eq_true rfl⟩ dX9_direct_33 hh0.1 rfl rfl (z_ai z_a0) (Nat.le_of_ble_eq_true rfl) (Nat.le_of_ble_eq_true rfl) ⟨Nat.le_refl _, Nat.le_refl _⟩ ?_
    refine t_X9_isTight hh0 q2 ?_
    show z_Sem mX9_direct (sh.length, 0) 36 [(0, z_r 161), (1, z_i x1), (2, z_i x2), (4, z_i x4)] [z_i (f_X9_isTight w x4)] (sh, w) Q
    refine z_if_eq (tgt := 62) dX9_direct_36 (by decide) (fun c3 => ?_) (fun c3 => ?_)
    · replace h := h.1 c3
      obtain ⟨q4, h⟩ := h
      refine z_iinc (L' := [(4, z_i (x4 + 1)), (0, z_r 161), (1, z_i x1), (2, z_i x2)]) 3 dX9_direct_62 rfl (by decide) rfl q4 ?_
      refine z_goto (tgt := 19) dX9_direct_65 (by decide) ?_
      refine z_sub (L' := [(0, z_r 161), (1, z_i x1), (2, z_i x2), (4, z_i (x4 + 1))]) [1, 2, 3, 0] rfl ?_
      exact h
    · replace h := h.2 c3
      refine z_aload_n 0 dX9_direct_39 rfl rfl ?_
      refine z_iload 3 dX9_direct_40 rfl ?_
      obtain ⟨q5, h⟩ := h
      refine z_callV (As := [z_i x4]) (rest := []) zmX9_fromOf znX9_fromOf zsX9_fromOf (show vwCl[9]? = some (RX9, TX9, 29) from rfl) zlRX9_90 ⟨Nat.le_of_ble_eq_true rfl, Nat.le_of_ble_eq_true rfl⟩ dX9_direct_42 hh0.1 rfl rfl (z_ai z_a0) (Nat.le_of_ble_eq_true rfl) (Nat.le_of_ble_eq_true rfl) ⟨Nat.le_refl _, Nat.le_refl _⟩ ?_
      refine t_X9_fromOf hh0 q5 ?_
      show z_Sem mX9_direct (sh.length, 0) 45 [(0, z_r 161), (1, z_i x1), (2, z_i x2), (4, z_i x4)] [z_i (f_X9_fromOf w x4)] (sh, w) Q
      refine z_iload_n 1 dX9_direct_45 rfl rfl ?_
      refine z_icmp_ne (tgt := 62) dX9_direct_46 (by decide) (fun c6 => ?_) (fun c6 => ?_)
      · replace h := h.2 c6
        obtain ⟨q7, h⟩ := h
        refine z_iinc (L' := [(4, z_i (x4 + 1)), (0, z_r 161), (1, z_i x1), (2, z_i x2)]) 3 dX9_direct_62 rfl (by decide) rfl q7 ?_
        refine z_goto (tgt := 19) dX9_direct_65 (by decide) ?_
        refine z_sub (L' := [(0, z_r 161), (1, z_i x1), (2, z_i x2), (4, z_i (x4 + 1))]) [1, 2, 3, 0] rfl ?_
        exact h
      · replace h := h.1 c6
        refine z_aload_n 0 dX9_direct_49 rfl rfl ?_
        refine z_iload 3 dX9_direct_50 rfl ?_
        obtain ⟨q8, h⟩ := h
        refine z_callV (As := [z_i x4]) (rest := []) zmX9_toOf znX9_toOf zsX9_toOf (show vwCl[9]? = some (RX9, TX9, 29) from rfl) zlRX9_93 ⟨Nat.le_of_ble_eq_true rfl, Nat.le_of_ble_eq_true rfl⟩ dX9_direct_52 hh0.1 rfl rfl (z_ai z_a0) (Nat.le_of_ble_eq_true rfl) (Nat.le_of_ble_eq_true rfl) ⟨Nat.le_refl _, Nat.le_refl _⟩ ?_
        refine t_X9_toOf hh0 q8 ?_
        show z_Sem mX9_direct (sh.length, 0) 55 [(0, z_r 161), (1, z_i x1), (2, z_i x2), (4, z_i x4)] [z_i (f_X9_toOf w x4)] (sh, w) Q
        refine z_iload_n 2 dX9_direct_55 rfl rfl ?_
        refine z_icmp_ne (tgt := 62) dX9_direct_56 (by decide) (fun c9 => ?_) (fun c9 => ?_)
        · replace h := h.2 c9
          obtain ⟨q10, h⟩ := h
          refine z_iinc (L' := [(4, z_i (x4 + 1)), (0, z_r 161), (1, z_i x1), (2, z_i x2)]) 3 dX9_direct_62 rfl (by decide) rfl q10 ?_
          refine z_goto (tgt := 19) dX9_direct_65 (by decide) ?_
          refine z_sub (L' := [(0, z_r 161), (1, z_i x1), (2, z_i x2), (4, z_i (x4 + 1))]) [1, 2, 3, 0] rfl ?_
          exact h
        · replace h := h.1 c9
          refine z_iload 3 dX9_direct_59 rfl ?_
          exact z_ret (v := some (z_i x4)) dX9_direct_61 ⟨rfl, Or.inl rfl⟩ rfl rfl h
def f_X9_timeOf (w : Nat → Int → Int) (x1 : Int) (x2 : Int) : Int := if x2 = 0 then f_X9_latest w x1 else f_X9_earliest w x1
def s_X9_timeOf (w : Nat → Int → Int) (x1 : Int) (x2 : Int) : Prop := (x2 = 0 → (s_X9_latest w x1) ∧ True) ∧ (¬ x2 = 0 → (s_X9_earliest w x1) ∧ True) ∧ True
set_option maxRecDepth 100000 in
theorem t_X9_timeOf {sh : List z_C} {w : Nat → Int → Int} {Q : Option z_V → z_S → Prop} {x1 : Int} {x2 : Int} (hh0 : z_isMod sh 161) (hs : s_X9_timeOf w x1 x2) (h : Q (some (z_i (f_X9_timeOf w x1 x2))) (sh, w)) : z_Sem mX9_timeOf (sh.length, 0) 0 [(0, z_r 161), (1, z_i x1), (2, z_i x2)] [] (sh, w) Q := by
  unfold f_X9_timeOf at h
  unfold s_X9_timeOf at hs
  refine z_iload_n 2 dX9_timeOf_0 rfl rfl ?_
  obtain ⟨m3, m4, hs⟩ := hs
  suffices hJ1 : z_Sem mX9_timeOf (sh.length, 0) 17 [] [z_i (if x2 = 0 then f_X9_latest w x1 else f_X9_earliest w x1)] (sh, w) Q by
    refine z_if_eq (tgt := 12) dX9_timeOf_1 (by decide) (fun c2 => ?_) (fun c2 => ?_)
    · skip
      have ho5 := m3 c2
      refine z_aload_n 0 dX9_timeOf_12 rfl rfl ?_
      refine z_iload_n 1 dX9_timeOf_13 rfl rfl ?_
      obtain ⟨q6, ho5⟩ := ho5
      refine z_callV (As := [z_i x1]) (rest := []) zmX9_latest znX9_latest zsX9_latest (show vwCl[9]? = some (RX9, TX9, 29) from rfl) zlRX9_117 ⟨Nat.le_of_ble_eq_true rfl, Nat.le_of_ble_eq_true rfl⟩ dX9_timeOf_14 hh0.1 rfl rfl (z_ai z_a0) (Nat.le_of_ble_eq_true rfl) (Nat.le_of_ble_eq_true rfl) ⟨Nat.le_refl _, Nat.le_refl _⟩ ?_
      refine t_X9_latest hh0 q6 ?_
      show z_Sem mX9_timeOf (sh.length, 0) 17 [(0, z_r 161), (1, z_i x1), (2, z_i x2)] [z_i (f_X9_latest w x1)] (sh, w) Q
      refine z_sub (L' := []) [] rfl ?_
      simp only [if_pos c2] at hJ1
      exact hJ1
    · skip
      have ho7 := m4 c2
      refine z_aload_n 0 dX9_timeOf_4 rfl rfl ?_
      refine z_iload_n 1 dX9_timeOf_5 rfl rfl ?_
      obtain ⟨q8, ho7⟩ := ho7
      refine z_callV (As := [z_i x1]) (rest := []) zmX9_earliest znX9_earliest zsX9_earliest (show vwCl[9]? = some (RX9, TX9, 29) from rfl) zlRX9_120 ⟨Nat.le_of_ble_eq_true rfl, Nat.le_of_ble_eq_true rfl⟩ dX9_timeOf_6 hh0.1 rfl rfl (z_ai z_a0) (Nat.le_of_ble_eq_true rfl) (Nat.le_of_ble_eq_true rfl) ⟨Nat.le_refl _, Nat.le_refl _⟩ ?_
      refine t_X9_earliest hh0 q8 ?_
      show z_Sem mX9_timeOf (sh.length, 0) 9 [(0, z_r 161), (1, z_i x1), (2, z_i x2)] [z_i (f_X9_earliest w x1)] (sh, w) Q
      refine z_goto (tgt := 17) dX9_timeOf_9 (by decide) ?_
      refine z_sub (L' := []) [] rfl ?_
      simp only [if_neg c2] at hJ1
      exact hJ1
  exact z_ret (v := some (z_i (if x2 = 0 then f_X9_latest w x1 else f_X9_earliest w x1))) dX9_timeOf_17 ⟨rfl, Or.inl rfl⟩ rfl rfl h
set_option maxRecDepth 100000 in
theorem t_X9_placed {sh : List z_C} {w : Nat → Int → Int} {Q : Option z_V → z_S → Prop} {x1 : Int} {x2 : Int} (hh0 : z_isMod sh 161) (h : z_CI mX9_lays [z_r 161] sh w (fun y2 w1 => z_Sem mX9_placed (sh.length, 0) 8 [(0, z_r 161), (1, z_i x1), (2, z_i x2), (4, z_i 0)] [] (sh, w1) Q)) : z_Sem mX9_placed (sh.length, 0) 0 [(0, z_r 161), (1, z_i x1), (2, z_i x2)] [] (sh, w) Q := by
  refine z_aload_n 0 dX9_placed_0 rfl rfl ?_
  refine z_callV (As := []) (rest := []) zmX9_lays znX9_lays zsX9_lays (show vwCl[9]? = some (RX9, TX9, 29) from rfl) zlRX9_126 ⟨Nat.le_of_ble_eq_true rfl, Nat.le_of_ble_eq_true rfl⟩ dX9_placed_1 hh0.1 rfl rfl z_a0 (Nat.le_of_ble_eq_true rfl) (Nat.le_of_ble_eq_true rfl) ⟨Nat.le_refl _, Nat.le_refl _⟩ (z_CIm h ?_)
  intro y2 w1 h
  show z_Sem mX9_placed (sh.length, 0) 4 [(0, z_r 161), (1, z_i x1), (2, z_i x2)] [z_i y2] (sh, w1) Q
  refine z_istore_n (L' := [(3, z_i y2), (0, z_r 161), (1, z_i x1), (2, z_i x2)]) dX9_placed_4 rfl (by decide) rfl ?_
  refine z_iconst dX9_placed_5 (by decide) ?_
  refine z_istore (L' := [(4, z_i 0), (3, z_i y2), (0, z_r 161), (1, z_i x1), (2, z_i x2)]) dX9_placed_6 (by decide) rfl ?_
  refine z_sub (L' := [(0, z_r 161), (1, z_i x1), (2, z_i x2), (4, z_i 0)]) [2, 3, 4, 0] rfl ?_
  exact h
set_option maxRecDepth 100000 in
theorem t_X9_placed_8 {sh : List z_C} {w : Nat → Int → Int} {Q : Option z_V → z_S → Prop} {x1 : Int} {x2 : Int} {x4 : Int} (hh0 : z_isMod sh 161) (h : (((w 163 1) ≤ x4 → Q (some (z_i (-2))) (sh, w)) ∧ (¬ (w 163 1) ≤ x4 → z_Sem mX9_placed (sh.length, 0) 25 [(0, z_r 161), (1, z_i x1), (2, z_i x2), (4, z_i x4), (5, z_i 0), (6, z_i 0)] [] (sh, w) Q))) : z_Sem mX9_placed (sh.length, 0) 8 [(0, z_r 161), (1, z_i x1), (2, z_i x2), (4, z_i x4)] [] (sh, w) Q := by
  refine z_iload 3 dX9_placed_8 rfl ?_
  refine z_aload_n 0 dX9_placed_10 rfl rfl ?_
  refine z_getR (r := 163) zfRX9_17 dX9_placed_11 hh0.1 rfl ?_
  refine z_iconst dX9_placed_14 (by decide) ?_
  refine z_iald dX9_placed_15 hh0.2.2.1 (by decide) ?_
  refine z_icmp_ge (tgt := 107) dX9_placed_16 (by decide) (fun c1 => ?_) (fun c1 => ?_)
  · replace h := h.1 c1
    refine z_bipush dX9_placed_107 (by decide) (by decide) ?_
    exact z_ret (v := some (z_i (-2))) dX9_placed_109 ⟨rfl, Or.inl rfl⟩ rfl rfl h
  · replace h := h.2 c1
    refine z_iconst dX9_placed_19 (by decide) ?_
    refine z_istore (L' := [(5, z_i 0), (0, z_r 161), (1, z_i x1), (2, z_i x2), (4, z_i x4)]) dX9_placed_20 (by decide) rfl ?_
    refine z_iconst dX9_placed_22 (by decide) ?_
    refine z_istore (L' := [(6, z_i 0), (5, z_i 0), (0, z_r 161), (1, z_i x1), (2, z_i x2), (4, z_i x4)]) dX9_placed_23 (by decide) rfl ?_
    refine z_sub (L' := [(0, z_r 161), (1, z_i x1), (2, z_i x2), (4, z_i x4), (5, z_i 0), (6, z_i 0)]) [2, 3, 4, 5, 1, 0] rfl ?_
    exact h
set_option maxRecDepth 100000 in
theorem t_X9_placed_25 {sh : List z_C} {w : Nat → Int → Int} {Q : Option z_V → z_S → Prop} {x1 : Int} {x2 : Int} {x4 : Int} {x5 : Int} {x6 : Int} (hh0 : z_isMod sh 161) (h : (((w 163 1) ≤ x6 → ((x5 = x1 → Q (some (z_i x4)) (sh, w)) ∧ (¬ x5 = x1 → (z_R (x4 + 1)) ∧ z_Sem mX9_placed (sh.length, 0) 8 [(0, z_r 161), (1, z_i x1), (2, z_i x2), (4, z_i (x4 + 1))] [] (sh, w) Q))) ∧ (¬ (w 163 1) ≤ x6 → (s_X9_timeOf w x6 x2) ∧ ∀ y5 : Int, y5 = (f_X9_timeOf w x6 x2) → (s_X9_timeOf w x4 x2) ∧ (¬ y5 < (f_X9_timeOf w x4 x2) → (s_X9_timeOf w x4 x2) ∧ True) ∧ (z_R (x5 + (if y5 < (f_X9_timeOf w x4 x2) then 1 else if y5 = (f_X9_timeOf w x4 x2) then (if x4 ≤ x6 then 0 else 1) else 0))) ∧ ∀ y22 : Int, y22 = (x5 + (if y5 < (f_X9_timeOf w x4 x2) then 1 else if y5 = (f_X9_timeOf w x4 x2) then (if x4 ≤ x6 then 0 else 1) else 0)) → (z_R (x6 + 1)) ∧ z_Sem mX9_placed (sh.length, 0) 25 [(0, z_r 161), (1, z_i x1), (2, z_i x2), (4, z_i x4), (5, z_i y22), (6, z_i (x6 + 1))] [] (sh, w) Q))) : z_Sem mX9_placed (sh.length, 0) 25 [(0, z_r 161), (1, z_i x1), (2, z_i x2), (4, z_i x4), (5, z_i x5), (6, z_i x6)] [] (sh, w) Q := by
  refine z_iload 5 dX9_placed_25 rfl ?_
  refine z_aload_n 0 dX9_placed_27 rfl rfl ?_
  refine z_getR (r := 163) zfRX9_17 dX9_placed_28 hh0.1 rfl ?_
  refine z_iconst dX9_placed_31 (by decide) ?_
  refine z_iald dX9_placed_32 hh0.2.2.1 (by decide) ?_
  refine z_icmp_ge (tgt := 92) dX9_placed_33 (by decide) (fun c1 => ?_) (fun c1 => ?_)
  · replace h := h.1 c1
    refine z_iload 4 dX9_placed_92 rfl ?_
    refine z_iload_n 1 dX9_placed_94 rfl rfl ?_
    refine z_icmp_ne (tgt := 101) dX9_placed_95 (by decide) (fun c2 => ?_) (fun c2 => ?_)
    · replace h := h.2 c2
      obtain ⟨q3, h⟩ := h
      refine z_iinc (L' := [(4, z_i (x4 + 1)), (0, z_r 161), (1, z_i x1), (2, z_i x2), (5, z_i x5), (6, z_i x6)]) 3 dX9_placed_101 rfl (by decide) rfl q3 ?_
      refine z_goto (tgt := 8) dX9_placed_104 (by decide) ?_
      refine z_sub (L' := [(0, z_r 161), (1, z_i x1), (2, z_i x2), (4, z_i (x4 + 1))]) [1, 2, 3, 0] rfl ?_
      exact h
    · replace h := h.1 c2
      refine z_iload 3 dX9_placed_98 rfl ?_
      exact z_ret (v := some (z_i x4)) dX9_placed_100 ⟨rfl, Or.inl rfl⟩ rfl rfl h
  · replace h := h.2 c1
    refine z_aload_n 0 dX9_placed_36 rfl rfl ?_
    refine z_iload 5 dX9_placed_37 rfl ?_
    refine z_iload_n 2 dX9_placed_39 rfl rfl ?_
    obtain ⟨q4, h⟩ := h
    refine z_callV (As := [z_i x6, z_i x2]) (rest := []) zmX9_timeOf znX9_timeOf zsX9_timeOf (show vwCl[9]? = some (RX9, TX9, 29) from rfl) zlRX9_292 ⟨Nat.le_of_ble_eq_true rfl, Nat.le_of_ble_eq_true rfl⟩ dX9_placed_40 hh0.1 rfl rfl (z_ai (z_ai z_a0)) (Nat.le_of_ble_eq_true rfl) (Nat.le_of_ble_eq_true rfl) ⟨Nat.le_refl _, Nat.le_refl _⟩ ?_
    refine t_X9_timeOf hh0 q4 ?_
    show z_Sem mX9_placed (sh.length, 0) 43 [(0, z_r 161), (1, z_i x1), (2, z_i x2), (4, z_i x4), (5, z_i x5), (6, z_i x6)] [z_i (f_X9_timeOf w x6 x2)] (sh, w) Q
    refine z_nam (fun y5 hy5 => ?_)
    replace h := h y5 hy5
    refine z_istore (L' := [(7, z_i y5), (0, z_r 161), (1, z_i x1), (2, z_i x2), (4, z_i x4), (5, z_i x5), (6, z_i x6)]) dX9_placed_43 (by decide) rfl ?_
    refine z_iload 5 dX9_placed_45 rfl ?_
    refine z_iload 0 dX9_placed_47 rfl ?_
    refine z_aload_n 1 dX9_placed_49 rfl rfl ?_
    refine z_iload 4 dX9_placed_50 rfl ?_
    refine z_iload_n 3 dX9_placed_52 rfl rfl ?_
    obtain ⟨q6, h⟩ := h
    refine z_callV (As := [z_i x4, z_i x2]) (rest := [z_i y5, z_i x5]) zmX9_timeOf znX9_timeOf zsX9_timeOf (show vwCl[9]? = some (RX9, TX9, 29) from rfl) zlRX9_292 ⟨Nat.le_of_ble_eq_true rfl, Nat.le_of_ble_eq_true rfl⟩ dX9_placed_53 hh0.1 rfl rfl (z_ai (z_ai z_a0)) (Nat.le_of_ble_eq_true rfl) (Nat.le_of_ble_eq_true rfl) ⟨Nat.le_refl _, Nat.le_refl _⟩ ?_
    refine t_X9_timeOf hh0 q6 ?_
    show z_Sem mX9_placed (sh.length, 0) 56 [(7, z_i y5), (0, z_r 161), (1, z_i x1), (2, z_i x2), (4, z_i x4), (5, z_i x5), (6, z_i x6)] [z_i (f_X9_timeOf w x4 x2), z_i y5, z_i x5] (sh, w) Q
    obtain ⟨m9, h⟩ := h
    suffices hJ7 : z_Sem mX9_placed (sh.length, 0) 83 [(0, z_r 161), (1, z_i x1), (2, z_i x2), (4, z_i x4), (6, z_i x6)] [z_i (if y5 < (f_X9_timeOf w x4 x2) then 1 else if y5 = (f_X9_timeOf w x4 x2) then (if x4 ≤ x6 then 0 else 1) else 0), z_i x5] (sh, w) Q by
      refine z_icmp_lt (tgt := 78) dX9_placed_56 (by decide) (fun c8 => ?_) (fun c8 => ?_)
      · skip
        refine z_iconst dX9_placed_78 (by decide) ?_
        refine z_goto (tgt := 83) dX9_placed_79 (by decide) ?_
        refine z_sub (L' := [(0, z_r 161), (1, z_i x1), (2, z_i x2), (4, z_i x4), (6, z_i x6)]) [1, 2, 3, 4, 6] rfl ?_
        simp only [if_pos c8] at hJ7
        exact hJ7
      · skip
        have ho11 := m9 c8
        refine z_iload 0 dX9_placed_59 rfl ?_
        refine z_aload_n 1 dX9_placed_61 rfl rfl ?_
        refine z_iload 4 dX9_placed_62 rfl ?_
        refine z_iload_n 3 dX9_placed_64 rfl rfl ?_
        obtain ⟨q12, ho11⟩ := ho11
        refine z_callV (As := [z_i x4, z_i x2]) (rest := [z_i y5, z_i x5]) zmX9_timeOf znX9_timeOf zsX9_timeOf (show vwCl[9]? = some (RX9, TX9, 29) from rfl) zlRX9_292 ⟨Nat.le_of_ble_eq_true rfl, Nat.le_of_ble_eq_true rfl⟩ dX9_placed_65 hh0.1 rfl rfl (z_ai (z_ai z_a0)) (Nat.le_of_ble_eq_true rfl) (Nat.le_of_ble_eq_true rfl) ⟨Nat.le_refl _, Nat.le_refl _⟩ ?_
        refine t_X9_timeOf hh0 q12 ?_
        show z_Sem mX9_placed (sh.length, 0) 68 [(7, z_i y5), (0, z_r 161), (1, z_i x1), (2, z_i x2), (4, z_i x4), (5, z_i x5), (6, z_i x6)] [z_i (f_X9_timeOf w x4 x2), z_i y5, z_i x5] (sh, w) Q
        suffices hJ13 : z_Sem mX9_placed (sh.length, 0) 83 [(0, z_r 161), (1, z_i x1), (2, z_i x2), (4, z_i x4), (6, z_i x6)] [z_i (if y5 = (f_X9_timeOf w x4 x2) then (if x4 ≤ x6 then 0 else 1) else 0), z_i x5] (sh, w) Q by
          refine z_icmp_ne (tgt := 82) dX9_placed_68 (by decide) (fun c14 => ?_) (fun c14 => ?_)
          · skip
            refine z_iconst dX9_placed_82 (by decide) ?_
            refine z_sub (L' := [(0, z_r 161), (1, z_i x1), (2, z_i x2), (4, z_i x4), (6, z_i x6)]) [1, 2, 3, 4, 6] rfl ?_
            simp only [if_neg c14] at hJ13
            exact hJ13
          · skip
            refine z_iload 6 dX9_placed_71 rfl ?_
            refine z_iload 4 dX9_placed_73 rfl ?_
            suffices hJ17 : z_Sem mX9_placed (sh.length, 0) 83 [(0, z_r 161), (1, z_i x1), (2, z_i x2), (4, z_i x4), (6, z_i x6)] [z_i (if x4 ≤ x6 then 0 else 1), z_i x5] (sh, w) Q by
              refine z_icmp_ge (tgt := 82) dX9_placed_75 (by decide) (fun c18 => ?_) (fun c18 => ?_)
              · skip
                refine z_iconst dX9_placed_82 (by decide) ?_
                refine z_sub (L' := [(0, z_r 161), (1, z_i x1), (2, z_i x2), (4, z_i x4), (6, z_i x6)]) [1, 2, 3, 4, 6] rfl ?_
                simp only [if_pos c18] at hJ17
                exact hJ17
              · skip
                refine z_iconst dX9_placed_78 (by decide) ?_
                refine z_goto (tgt := 83) dX9_placed_79 (by decide) ?_
                refine z_sub (L' := [(0, z_r 161), (1, z_i x1), (2, z_i x2), (4, z_i x4), (6, z_i x6)]) [1, 2, 3, 4, 6] rfl ?_
                simp only [if_neg c18] at hJ17
                exact hJ17
            simp only [if_pos c14] at hJ13
            exact hJ13
        simp only [if_neg c8] at hJ7
        exact hJ7
    obtain ⟨q21, h⟩ := h
    refine z_iadd dX9_placed_83 q21 ?_
    refine z_nam (fun y22 hy22 => ?_)
    replace h := h y22 hy22
    refine z_istore (L' := [(5, z_i y22), (0, z_r 161), (1, z_i x1), (2, z_i x2), (4, z_i x4), (6, z_i x6)]) dX9_placed_84 (by decide) rfl ?_
    obtain ⟨q23, h⟩ := h
    refine z_iinc (L' := [(6, z_i (x6 + 1)), (5, z_i y22), (0, z_r 161), (1, z_i x1), (2, z_i x2), (4, z_i x4)]) 5 dX9_placed_86 rfl (by decide) rfl q23 ?_
    refine z_goto (tgt := 25) dX9_placed_89 (by decide) ?_
    refine z_sub (L' := [(0, z_r 161), (1, z_i x1), (2, z_i x2), (4, z_i x4), (5, z_i y22), (6, z_i (x6 + 1))]) [2, 3, 4, 5, 1, 0] rfl ?_
    exact h
set_option maxRecDepth 100000 in
theorem t_X9_ordered {sh : List z_C} {w : Nat → Int → Int} {Q : Option z_V → z_S → Prop} {x1 : Int} (hh0 : z_isMod sh 161) (h : ((0 ≤ x1 → z_CI mX9_placed [z_r 161, z_i x1, z_i 1] sh w (fun y3 w2 => Q (some (z_i y3)) (sh, w2))) ∧ (¬ 0 ≤ x1 → Q (some (z_i (-1))) (sh, w)))) : z_Sem mX9_ordered (sh.length, 0) 0 [(0, z_r 161), (1, z_i x1)] [] (sh, w) Q := by
  refine z_iload_n 1 dX9_ordered_0 rfl rfl ?_
  refine z_if_ge (tgt := 8) dX9_ordered_1 (by decide) (fun c1 => ?_) (fun c1 => ?_)
  · replace h := h.1 c1
    refine z_aload_n 0 dX9_ordered_8 rfl rfl ?_
    refine z_iload_n 1 dX9_ordered_9 rfl rfl ?_
    refine z_iconst dX9_ordered_10 (by decide) ?_
    refine z_callV (As := [z_i x1, z_i 1]) (rest := []) zmX9_placed znX9_placed zsX9_placed (show vwCl[9]? = some (RX9, TX9, 29) from rfl) zlRX9_296 ⟨Nat.le_of_ble_eq_true rfl, Nat.le_of_ble_eq_true rfl⟩ dX9_ordered_11 hh0.1 rfl rfl (z_ai (z_ai z_a0)) (Nat.le_of_ble_eq_true rfl) (Nat.le_of_ble_eq_true rfl) ⟨Nat.le_refl _, Nat.le_refl _⟩ (z_CIm h ?_)
    intro y3 w2 h
    show z_Sem mX9_ordered (sh.length, 0) 14 [(0, z_r 161), (1, z_i x1)] [z_i y3] (sh, w2) Q
    exact z_ret (v := some (z_i y3)) dX9_ordered_14 ⟨rfl, Or.inl rfl⟩ rfl rfl h
  · replace h := h.2 c1
    refine z_iconst dX9_ordered_4 (by decide) ?_
    refine z_goto (tgt := 14) dX9_ordered_5 (by decide) ?_
    exact z_ret (v := some (z_i (-1))) dX9_ordered_14 ⟨rfl, Or.inl rfl⟩ rfl rfl h
set_option maxRecDepth 100000 in
theorem t_X9_lastly {sh : List z_C} {w : Nat → Int → Int} {Q : Option z_V → z_S → Prop} {x1 : Int} (hh0 : z_isMod sh 161) (h : ((0 ≤ x1 → z_CI mX9_placed [z_r 161, z_i x1, z_i 0] sh w (fun y3 w2 => Q (some (z_i y3)) (sh, w2))) ∧ (¬ 0 ≤ x1 → Q (some (z_i (-1))) (sh, w)))) : z_Sem mX9_lastly (sh.length, 0) 0 [(0, z_r 161), (1, z_i x1)] [] (sh, w) Q := by
  refine z_iload_n 1 dX9_lastly_0 rfl rfl ?_
  refine z_if_ge (tgt := 8) dX9_lastly_1 (by decide) (fun c1 => ?_) (fun c1 => ?_)
  · replace h := h.1 c1
    refine z_aload_n 0 dX9_lastly_8 rfl rfl ?_
    refine z_iload_n 1 dX9_lastly_9 rfl rfl ?_
    refine z_iconst dX9_lastly_10 (by decide) ?_
    refine z_callV (As := [z_i x1, z_i 0]) (rest := []) zmX9_placed znX9_placed zsX9_placed (show vwCl[9]? = some (RX9, TX9, 29) from rfl) zlRX9_296 ⟨Nat.le_of_ble_eq_true rfl, Nat.le_of_ble_eq_true rfl⟩ dX9_lastly_11 hh0.1 rfl rfl (z_ai (z_ai z_a0)) (Nat.le_of_ble_eq_true rfl) (Nat.le_of_ble_eq_true rfl) ⟨Nat.le_refl _, Nat.le_refl _⟩ (z_CIm h ?_)
    intro y3 w2 h
    show z_Sem mX9_lastly (sh.length, 0) 14 [(0, z_r 161), (1, z_i x1)] [z_i y3] (sh, w2) Q
    exact z_ret (v := some (z_i y3)) dX9_lastly_14 ⟨rfl, Or.inl rfl⟩ rfl rfl h
  · replace h := h.2 c1
    refine z_iconst dX9_lastly_4 (by decide) ?_
    refine z_goto (tgt := 14) dX9_lastly_5 (by decide) ?_
    exact z_ret (v := some (z_i (-1))) dX9_lastly_14 ⟨rfl, Or.inl rfl⟩ rfl rfl h
set_option maxRecDepth 100000 in
theorem t_X9_middle {sh : List z_C} {w : Nat → Int → Int} {Q : Option z_V → z_S → Prop} {x1 : Int} (hh0 : z_isMod sh 161) (h : (s_X9_isEvent w x1) ∧ (((f_X9_isEvent w x1) = 0 → Q (some (z_i (-1))) (sh, w)) ∧ (¬ (f_X9_isEvent w x1) = 0 → z_CV mX9_begins [z_r 161] sh w (fun w3 => z_Sem mX9_middle (sh.length, 0) 16 [(0, z_r 161), (1, z_i x1), (2, z_i 1)] [] (sh, w3) Q)))) : z_Sem mX9_middle (sh.length, 0) 0 [(0, z_r 161), (1, z_i x1)] [] (sh, w) Q := by
  refine z_aload_n 0 dX9_middle_0 rfl rfl ?_
  refine z_iload_n 1 dX9_middle_1 rfl rfl ?_
  obtain ⟨q1, h⟩ := h
  refine z_callV (As := [z_i x1]) (rest := []) zmX9_isEvent znX9_isEvent zsX9_isEvent (show vwCl[9]? = some (RX9, TX9, 29) from rfl) zlRX9_80 ⟨Nat.le_of_ble_eq_true rfl, Nat.le_of_ble_eq_true rfl⟩ dX9_middle_2 hh0.1 rfl rfl (z_ai z_a0) (Nat.le_of_ble_eq_true rfl) (Nat.le_of_ble_eq_true rfl) ⟨Nat.le_refl _, Nat.le_refl _⟩ ?_
  refine t_X9_isEvent hh0 q1 ?_
  show z_Sem mX9_middle (sh.length, 0) 5 [(0, z_r 161), (1, z_i x1)] [z_i (f_X9_isEvent w x1)] (sh, w) Q
  refine z_if_ne (tgt := 10) dX9_middle_5 (by decide) (fun c2 => ?_) (fun c2 => ?_)
  · replace h := h.2 c2
    refine z_aload_n 0 dX9_middle_10 rfl rfl ?_
    refine z_callV (As := []) (rest := []) zmX9_begins znX9_begins zsX9_begins (show vwCl[9]? = some (RX9, TX9, 29) from rfl) zlRX9_69 ⟨Nat.le_of_ble_eq_true rfl, Nat.le_of_ble_eq_true rfl⟩ dX9_middle_11 hh0.1 rfl rfl z_a0 (Nat.le_of_ble_eq_true rfl) (Nat.le_of_ble_eq_true rfl) ⟨Nat.le_refl _, Nat.le_refl _⟩ (z_CVm h ?_)
    intro w3 h
    show z_Sem mX9_middle (sh.length, 0) 14 [(0, z_r 161), (1, z_i x1)] [] (sh, w3) Q
    refine z_iconst dX9_middle_14 (by decide) ?_
    refine z_istore_n (L' := [(2, z_i 1), (0, z_r 161), (1, z_i x1)]) dX9_middle_15 rfl (by decide) rfl ?_
    refine z_sub (L' := [(0, z_r 161), (1, z_i x1), (2, z_i 1)]) [1, 2, 0] rfl ?_
    exact h
  · replace h := h.1 c2
    refine z_iconst dX9_middle_8 (by decide) ?_
    exact z_ret (v := some (z_i (-1))) dX9_middle_9 ⟨rfl, Or.inl rfl⟩ rfl rfl h
set_option maxRecDepth 100000 in
theorem t_X9_middle_16 {sh : List z_C} {w : Nat → Int → Int} {Q : Option z_V → z_S → Prop} {x1 : Int} {x2 : Int} (hh0 : z_isMod sh 161) (h : (((w 163 1) ≤ x2 → (¬ x1 = 0 → (z_R (133 + x1)) ∧ ((0 : Int) ≤ (133 + x1) ∧ (133 + x1) < 264) ∧ (z_R ((w 163 (133 + x1)) - 1)) ∧ True) ∧ z_CI mX9_fails [z_r 161, z_i (if x1 = 0 then 0 else (w 163 (133 + x1)) - 1)] sh w (fun y11 w10 => Q (some (z_i y11)) (sh, w10))) ∧ (¬ (w 163 1) ≤ x2 → z_CI mX9_lays [z_r 161] sh w (fun y13 w12 => (z_R (133 + x2)) ∧ (s_X9_isPinned w12 x2) ∧ ((f_X9_isPinned w12 x2) = 0 → (s_X9_earliest w12 x2) ∧ (s_X9_latest w12 x2) ∧ (z_R ((f_X9_earliest w12 x2) + (f_X9_latest w12 x2))) ∧ (z_R ((((f_X9_earliest w12 x2) + (f_X9_latest w12 x2)).tdiv 2) + 1)) ∧ True) ∧ (¬ (f_X9_isPinned w12 x2) = 0 → (z_R (133 + x2)) ∧ ((0 : Int) ≤ (133 + x2) ∧ (133 + x2) < 264) ∧ True) ∧ ((0 : Int) ≤ (133 + x2) ∧ (133 + x2) < 264) ∧ ∀ w28 : Nat → Int → Int, w28 = z_W w12 163 (133 + x2) (if (f_X9_isPinned w12 x2) = 0 then (((f_X9_earliest w12 x2) + (f_X9_latest w12 x2)).tdiv 2) + 1 else w12 163 (133 + x2)) → (z_R (x2 + 1)) ∧ z_Sem mX9_middle (sh.length, 0) 16 [(0, z_r 161), (1, z_i x1), (2, z_i (x2 + 1))] [] (sh, w28) Q)))) : z_Sem mX9_middle (sh.length, 0) 16 [(0, z_r 161), (1, z_i x1), (2, z_i x2)] [] (sh, w) Q := by
  refine z_iload_n 2 dX9_middle_16 rfl rfl ?_
  refine z_aload_n 0 dX9_middle_17 rfl rfl ?_
  refine z_getR (r := 163) zfRX9_17 dX9_middle_18 hh0.1 rfl ?_
  refine z_iconst dX9_middle_21 (by decide) ?_
  refine z_iald dX9_middle_22 hh0.2.2.1 (by decide) ?_
  refine z_icmp_ge (tgt := 83) dX9_middle_23 (by decide) (fun c1 => ?_) (fun c1 => ?_)
  · replace h := h.1 c1
    refine z_aload_n 0 dX9_middle_83 rfl rfl ?_
    refine z_iload_n 1 dX9_middle_84 rfl rfl ?_
    obtain ⟨m4, h⟩ := h
    suffices hJ2 : z_Sem mX9_middle (sh.length, 0) 104 [] [z_i (if x1 = 0 then 0 else (w 163 (133 + x1)) - 1), z_r 161] (sh, w) Q by
      refine z_if_ne (tgt := 92) dX9_middle_85 (by decide) (fun c3 => ?_) (fun c3 => ?_)
      · skip
        have ho5 := m4 c3
        refine z_aload_n 0 dX9_middle_92 rfl rfl ?_
        refine z_getR (r := 163) zfRX9_17 dX9_middle_93 hh0.1 rfl ?_
        refine z_sipush dX9_middle_96 (by decide) (by decide) ?_
        refine z_iload_n 1 dX9_middle_99 rfl rfl ?_
        obtain ⟨q6, ho5⟩ := ho5
        refine z_iadd dX9_middle_100 q6 ?_
        obtain ⟨q7, ho5⟩ := ho5
        refine z_iald dX9_middle_101 hh0.2.2.1 q7 ?_
        refine z_iconst dX9_middle_102 (by decide) ?_
        obtain ⟨q8, ho5⟩ := ho5
        refine z_isub dX9_middle_103 q8 ?_
        refine z_sub (L' := []) [] rfl ?_
        simp only [if_neg c3] at hJ2
        exact hJ2
      · skip
        refine z_iconst dX9_middle_88 (by decide) ?_
        refine z_goto (tgt := 104) dX9_middle_89 (by decide) ?_
        refine z_sub (L' := []) [] rfl ?_
        simp only [if_pos c3] at hJ2
        exact hJ2
    refine z_callV (As := [z_i (if x1 = 0 then 0 else (w 163 (133 + x1)) - 1)]) (rest := []) zmX9_fails znX9_fails zsX9_fails (show vwCl[9]? = some (RX9, TX9, 29) from rfl) zlRX9_137 ⟨Nat.le_of_ble_eq_true rfl, Nat.le_of_ble_eq_true rfl⟩ dX9_middle_104 hh0.1 rfl rfl (z_ai z_a0) (Nat.le_of_ble_eq_true rfl) (Nat.le_of_ble_eq_true rfl) ⟨Nat.le_refl _, Nat.le_refl _⟩ (z_CIm h ?_)
    intro y11 w10 h
    show z_Sem mX9_middle (sh.length, 0) 107 [] [z_i y11] (sh, w10) Q
    exact z_ret (v := some (z_i y11)) dX9_middle_107 ⟨rfl, Or.inl rfl⟩ rfl rfl h
  · replace h := h.2 c1
    refine z_aload_n 0 dX9_middle_26 rfl rfl ?_
    refine z_callV (As := []) (rest := []) zmX9_lays znX9_lays zsX9_lays (show vwCl[9]? = some (RX9, TX9, 29) from rfl) zlRX9_126 ⟨Nat.le_of_ble_eq_true rfl, Nat.le_of_ble_eq_true rfl⟩ dX9_middle_27 hh0.1 rfl rfl z_a0 (Nat.le_of_ble_eq_true rfl) (Nat.le_of_ble_eq_true rfl) ⟨Nat.le_refl _, Nat.le_refl _⟩ (z_CIm h ?_)
    intro y13 w12 h
    show z_Sem mX9_middle (sh.length, 0) 30 [(0, z_r 161), (1, z_i x1), (2, z_i x2)] [z_i y13] (sh, w12) Q
    refine z_istore_n (L' := [(3, z_i y13), (0, z_r 161), (1, z_i x1), (2, z_i x2)]) dX9_middle_30 rfl (by decide) rfl ?_
    refine z_aload_n 1 dX9_middle_31 rfl rfl ?_
    refine z_getR (r := 163) zfRX9_17 dX9_middle_32 hh0.1 rfl ?_
    refine z_sipush dX9_middle_35 (by decide) (by decide) ?_
    refine z_iload_n 3 dX9_middle_38 rfl rfl ?_
    obtain ⟨q14, h⟩ := h
    refine z_iadd dX9_middle_39 q14 ?_
    refine z_aload_n 1 dX9_middle_40 rfl rfl ?_
    refine z_iload_n 3 dX9_middle_41 rfl rfl ?_
    obtain ⟨q15, h⟩ := h
    refine z_callV (As := [z_i x2]) (rest := [z_i (133 + x2), z_r 163]) zmX9_isPinned znX9_isPinned zsX9_isPinned (show vwCl[9]? = some (RX9, TX9, 29) from rfl) zlRX9_103 ⟨Nat.le_of_ble_eq_true rfl, Nat.le_of_ble_eq_true rfl⟩ dX9_middle_42 hh0.1 rfl rfl (z_ai z_a0) (Nat.le_of_ble_eq_true rfl) (Nat.le_of_ble_eq_true rfl) ⟨Nat.le_refl _, Nat.le_refl _⟩ ?_
    refine t_X9_isPinned hh0 q15 ?_
    show z_Sem mX9_middle (sh.length, 0) 45 [(3, z_i y13), (0, z_r 161), (1, z_i x1), (2, z_i x2)] [z_i (f_X9_isPinned w12 x2), z_i (133 + x2), z_r 163] (sh, w12) Q
    obtain ⟨m18, m19, h⟩ := h
    suffices hJ16 : z_Sem mX9_middle (sh.length, 0) 76 [(0, z_r 161), (1, z_i x1), (2, z_i x2)] [z_i (if (f_X9_isPinned w12 x2) = 0 then (((f_X9_earliest w12 x2) + (f_X9_latest w12 x2)).tdiv 2) + 1 else w12 163 (133 + x2)), z_i (133 + x2), z_r 163] (sh, w12) Q by
      refine z_if_eq (tgt := 61) dX9_middle_45 (by decide) (fun c17 => ?_) (fun c17 => ?_)
      · skip
        have ho20 := m18 c17
        refine z_aload_n 1 dX9_middle_61 rfl rfl ?_
        refine z_iload_n 3 dX9_middle_62 rfl rfl ?_
        obtain ⟨q21, ho20⟩ := ho20
        refine z_callV (As := [z_i x2]) (rest := [z_i (133 + x2), z_r 163]) zmX9_earliest znX9_earliest zsX9_earliest (show vwCl[9]? = some (RX9, TX9, 29) from rfl) zlRX9_120 ⟨Nat.le_of_ble_eq_true rfl, Nat.le_of_ble_eq_true rfl⟩ dX9_middle_63 hh0.1 rfl rfl (z_ai z_a0) (Nat.le_of_ble_eq_true rfl) (Nat.le_of_ble_eq_true rfl) ⟨Nat.le_refl _, Nat.le_refl _⟩ ?_
        refine t_X9_earliest hh0 q21 ?_
        show z_Sem mX9_middle (sh.length, 0) 66 [(3, z_i y13), (0, z_r 161), (1, z_i x1), (2, z_i x2)] [z_i (f_X9_earliest w12 x2), z_i (133 + x2), z_r 163] (sh, w12) Q
        refine z_aload_n 1 dX9_middle_66 rfl rfl ?_
        refine z_iload_n 3 dX9_middle_67 rfl rfl ?_
        obtain ⟨q22, ho20⟩ := ho20
        refine z_callV (As := [z_i x2]) (rest := [z_i (f_X9_earliest w12 x2), z_i (133 + x2), z_r 163]) zmX9_latest znX9_latest zsX9_latest (show vwCl[9]? = some (RX9, TX9, 29) from rfl) zlRX9_117 ⟨Nat.le_of_ble_eq_true rfl, Nat.le_of_ble_eq_true rfl⟩ dX9_middle_68 hh0.1 rfl rfl (z_ai z_a0) (Nat.le_of_ble_eq_true rfl) (Nat.le_of_ble_eq_true rfl) ⟨Nat.le_refl _, Nat.le_refl _⟩ ?_
        refine t_X9_latest hh0 q22 ?_
        show z_Sem mX9_middle (sh.length, 0) 71 [(3, z_i y13), (0, z_r 161), (1, z_i x1), (2, z_i x2)] [z_i (f_X9_latest w12 x2), z_i (f_X9_earliest w12 x2), z_i (133 + x2), z_r 163] (sh, w12) Q
        obtain ⟨q23, ho20⟩ := ho20
        refine z_iadd dX9_middle_71 q23 ?_
        refine z_iconst dX9_middle_72 (by decide) ?_
        refine z_idiv dX9_middle_73 (by decide) ?_
        refine z_iconst dX9_middle_74 (by decide) ?_
        obtain ⟨q24, ho20⟩ := ho20
        refine z_iadd dX9_middle_75 q24 ?_
        refine z_sub (L' := [(0, z_r 161), (1, z_i x1), (2, z_i x2)]) [1, 2, 3] rfl ?_
        simp only [if_pos c17] at hJ16
        exact hJ16
      · skip
        have ho25 := m19 c17
        refine z_aload_n 1 dX9_middle_48 rfl rfl ?_
        refine z_getR (r := 163) zfRX9_17 dX9_middle_49 hh0.1 rfl ?_
        refine z_sipush dX9_middle_52 (by decide) (by decide) ?_
        refine z_iload_n 3 dX9_middle_55 rfl rfl ?_
        obtain ⟨q26, ho25⟩ := ho25
        refine z_iadd dX9_middle_56 q26 ?_
        obtain ⟨q27, ho25⟩ := ho25
        refine z_iald dX9_middle_57 hh0.2.2.1 q27 ?_
        refine z_goto (tgt := 76) dX9_middle_58 (by decide) ?_
        refine z_sub (L' := [(0, z_r 161), (1, z_i x1), (2, z_i x2)]) [1, 2, 3] rfl ?_
        simp only [if_neg c17] at hJ16
        exact hJ16
    obtain ⟨q29, h⟩ := h
    refine z_iast dX9_middle_76 hh0.2.2.1 q29 ?_
    refine z_genw (fun w28 hw28 => ?_)
    replace h := h w28 hw28
    obtain ⟨q30, h⟩ := h
    refine z_iinc (L' := [(2, z_i (x2 + 1)), (0, z_r 161), (1, z_i x1)]) 2 dX9_middle_77 rfl (by decide) rfl q30 ?_
    refine z_goto (tgt := 16) dX9_middle_80 (by decide) ?_
    refine z_sub (L' := [(0, z_r 161), (1, z_i x1), (2, z_i (x2 + 1))]) [1, 2, 0] rfl ?_
    exact h
set_option maxRecDepth 100000 in
theorem t_X9_can {sh : List z_C} {w : Nat → Int → Int} {Q : Option z_V → z_S → Prop} {x1 : Int} {x2 : Int} (hh0 : z_isMod sh 161) (h : (s_X9_isEvent w x1) ∧ (((f_X9_isEvent w x1) = 0 → Q (some (z_i (-1))) (sh, w)) ∧ (¬ (f_X9_isEvent w x1) = 0 → z_CI mX9_lays [z_r 161] sh w (fun y4 w3 => (s_X9_earliest w3 x1) ∧ (s_X9_latest w3 x1) ∧ Q (some (z_i (if (f_X9_in w3 x2 (f_X9_earliest w3 x1) (f_X9_latest w3 x1)) = 0 then 0 else 1))) (sh, w3))))) : z_Sem mX9_can (sh.length, 0) 0 [(0, z_r 161), (1, z_i x1), (2, z_i x2)] [] (sh, w) Q := by
  refine z_aload_n 0 dX9_can_0 rfl rfl ?_
  refine z_iload_n 1 dX9_can_1 rfl rfl ?_
  obtain ⟨q1, h⟩ := h
  refine z_callV (As := [z_i x1]) (rest := []) zmX9_isEvent znX9_isEvent zsX9_isEvent (show vwCl[9]? = some (RX9, TX9, 29) from rfl) zlRX9_80 ⟨Nat.le_of_ble_eq_true rfl, Nat.le_of_ble_eq_true rfl⟩ dX9_can_2 hh0.1 rfl rfl (z_ai z_a0) (Nat.le_of_ble_eq_true rfl) (Nat.le_of_ble_eq_true rfl) ⟨Nat.le_refl _, Nat.le_refl _⟩ ?_
  refine t_X9_isEvent hh0 q1 ?_
  show z_Sem mX9_can (sh.length, 0) 5 [(0, z_r 161), (1, z_i x1), (2, z_i x2)] [z_i (f_X9_isEvent w x1)] (sh, w) Q
  refine z_if_ne (tgt := 10) dX9_can_5 (by decide) (fun c2 => ?_) (fun c2 => ?_)
  · replace h := h.2 c2
    refine z_aload_n 0 dX9_can_10 rfl rfl ?_
    refine z_callV (As := []) (rest := []) zmX9_lays znX9_lays zsX9_lays (show vwCl[9]? = some (RX9, TX9, 29) from rfl) zlRX9_126 ⟨Nat.le_of_ble_eq_true rfl, Nat.le_of_ble_eq_true rfl⟩ dX9_can_11 hh0.1 rfl rfl z_a0 (Nat.le_of_ble_eq_true rfl) (Nat.le_of_ble_eq_true rfl) ⟨Nat.le_refl _, Nat.le_refl _⟩ (z_CIm h ?_)
    intro y4 w3 h
    show z_Sem mX9_can (sh.length, 0) 14 [(0, z_r 161), (1, z_i x1), (2, z_i x2)] [z_i y4] (sh, w3) Q
    refine z_istore_n (L' := [(3, z_i y4), (0, z_r 161), (1, z_i x1), (2, z_i x2)]) dX9_can_14 rfl (by decide) rfl ?_
    refine z_iload_n 3 dX9_can_15 rfl rfl ?_
    refine z_aload_n 1 dX9_can_16 rfl rfl ?_
    refine z_iload_n 2 dX9_can_17 rfl rfl ?_
    obtain ⟨q5, h⟩ := h
    refine z_callV (As := [z_i x1]) (rest := [z_i x2]) zmX9_earliest znX9_earliest zsX9_earliest (show vwCl[9]? = some (RX9, TX9, 29) from rfl) zlRX9_120 ⟨Nat.le_of_ble_eq_true rfl, Nat.le_of_ble_eq_true rfl⟩ dX9_can_18 hh0.1 rfl rfl (z_ai z_a0) (Nat.le_of_ble_eq_true rfl) (Nat.le_of_ble_eq_true rfl) ⟨Nat.le_refl _, Nat.le_refl _⟩ ?_
    refine t_X9_earliest hh0 q5 ?_
    show z_Sem mX9_can (sh.length, 0) 21 [(3, z_i y4), (0, z_r 161), (1, z_i x1), (2, z_i x2)] [z_i (f_X9_earliest w3 x1), z_i x2] (sh, w3) Q
    refine z_aload_n 1 dX9_can_21 rfl rfl ?_
    refine z_iload_n 2 dX9_can_22 rfl rfl ?_
    obtain ⟨q6, h⟩ := h
    refine z_callV (As := [z_i x1]) (rest := [z_i (f_X9_earliest w3 x1), z_i x2]) zmX9_latest znX9_latest zsX9_latest (show vwCl[9]? = some (RX9, TX9, 29) from rfl) zlRX9_117 ⟨Nat.le_of_ble_eq_true rfl, Nat.le_of_ble_eq_true rfl⟩ dX9_can_23 hh0.1 rfl rfl (z_ai z_a0) (Nat.le_of_ble_eq_true rfl) (Nat.le_of_ble_eq_true rfl) ⟨Nat.le_refl _, Nat.le_refl _⟩ ?_
    refine t_X9_latest hh0 q6 ?_
    show z_Sem mX9_can (sh.length, 0) 26 [(3, z_i y4), (0, z_r 161), (1, z_i x1), (2, z_i x2)] [z_i (f_X9_latest w3 x1), z_i (f_X9_earliest w3 x1), z_i x2] (sh, w3) Q
    refine z_callS (As := [z_i x2, z_i (f_X9_earliest w3 x1), z_i (f_X9_latest w3 x1)]) (rest := []) zmX9_in ztX9_in zlRX9_65 ⟨Nat.le_of_ble_eq_true rfl, Nat.le_of_ble_eq_true rfl⟩ dX9_can_26 rfl rfl (z_ai (z_ai (z_ai z_a0))) (Nat.le_of_ble_eq_true rfl) (Nat.le_of_ble_eq_true rfl) ⟨Nat.le_refl _, Nat.le_refl _⟩ ?_
    refine t_X9_in  ?_
    show z_Sem mX9_can (sh.length, 0) 29 [(3, z_i y4), (0, z_r 161), (1, z_i x1), (2, z_i x2)] [z_i (f_X9_in w3 x2 (f_X9_earliest w3 x1) (f_X9_latest w3 x1))] (sh, w3) Q
    suffices hJ7 : z_Sem mX9_can (sh.length, 0) 37 [] [z_i (if (f_X9_in w3 x2 (f_X9_earliest w3 x1) (f_X9_latest w3 x1)) = 0 then 0 else 1)] (sh, w3) Q by
      refine z_if_eq (tgt := 36) dX9_can_29 (by decide) (fun c8 => ?_) (fun c8 => ?_)
      · skip
        refine z_iconst dX9_can_36 (by decide) ?_
        refine z_sub (L' := []) [] rfl ?_
        simp only [if_pos c8] at hJ7
        exact hJ7
      · skip
        refine z_iconst dX9_can_32 (by decide) ?_
        refine z_goto (tgt := 37) dX9_can_33 (by decide) ?_
        refine z_sub (L' := []) [] rfl ?_
        simp only [if_neg c8] at hJ7
        exact hJ7
    exact z_ret (v := some (z_i (if (f_X9_in w3 x2 (f_X9_earliest w3 x1) (f_X9_latest w3 x1)) = 0 then 0 else 1))) dX9_can_37 ⟨rfl, Or.inl rfl⟩ rfl rfl h
  · replace h := h.1 c2
    refine z_iconst dX9_can_8 (by decide) ?_
    exact z_ret (v := some (z_i (-1))) dX9_can_9 ⟨rfl, Or.inl rfl⟩ rfl rfl h
set_option maxRecDepth 100000 in
theorem t_X9_widest {sh : List z_C} {w : Nat → Int → Int} {Q : Option z_V → z_S → Prop}  (hh0 : z_isMod sh 161) (h : z_CI mX9_lays [z_r 161] sh w (fun y2 w1 => z_Sem mX9_widest (sh.length, 0) 14 [(0, z_r 161), (2, z_i (-2)), (3, z_i (-1000000)), (4, z_i 0)] [] (sh, w1) Q)) : z_Sem mX9_widest (sh.length, 0) 0 [(0, z_r 161)] [] (sh, w) Q := by
  refine z_aload_n 0 dX9_widest_0 rfl rfl ?_
  refine z_callV (As := []) (rest := []) zmX9_lays znX9_lays zsX9_lays (show vwCl[9]? = some (RX9, TX9, 29) from rfl) zlRX9_126 ⟨Nat.le_of_ble_eq_true rfl, Nat.le_of_ble_eq_true rfl⟩ dX9_widest_1 hh0.1 rfl rfl z_a0 (Nat.le_of_ble_eq_true rfl) (Nat.le_of_ble_eq_true rfl) ⟨Nat.le_refl _, Nat.le_refl _⟩ (z_CIm h ?_)
  intro y2 w1 h
  show z_Sem mX9_widest (sh.length, 0) 4 [(0, z_r 161)] [z_i y2] (sh, w1) Q
  refine z_istore_n (L' := [(1, z_i y2), (0, z_r 161)]) dX9_widest_4 rfl (by decide) rfl ?_
  refine z_bipush dX9_widest_5 (by decide) (by decide) ?_
  refine z_istore_n (L' := [(2, z_i (-2)), (1, z_i y2), (0, z_r 161)]) dX9_widest_7 rfl (by decide) rfl ?_
  refine z_ldc (n := -1000000) zkRX9_116 dX9_widest_8 (by decide) (by decide) ?_
  refine z_istore_n (L' := [(3, z_i (-1000000)), (2, z_i (-2)), (1, z_i y2), (0, z_r 161)]) dX9_widest_10 rfl (by decide) rfl ?_
  refine z_iconst dX9_widest_11 (by decide) ?_
  refine z_istore (L' := [(4, z_i 0), (3, z_i (-1000000)), (2, z_i (-2)), (1, z_i y2), (0, z_r 161)]) dX9_widest_12 (by decide) rfl ?_
  refine z_sub (L' := [(0, z_r 161), (2, z_i (-2)), (3, z_i (-1000000)), (4, z_i 0)]) [4, 2, 1, 0] rfl ?_
  exact h
set_option maxRecDepth 100000 in
theorem t_X9_widest_14 {sh : List z_C} {w : Nat → Int → Int} {Q : Option z_V → z_S → Prop} {x2 : Int} {x3 : Int} {x4 : Int} (hh0 : z_isMod sh 161) (h : (((w 163 1) ≤ x4 → Q (some (z_i x2)) (sh, w)) ∧ (¬ (w 163 1) ≤ x4 → z_Sem mX9_widest (sh.length, 0) 28 [(0, z_r 161), (2, z_i x2), (3, z_i x3), (4, z_i x4), (5, z_i 0)] [] (sh, w) Q))) : z_Sem mX9_widest (sh.length, 0) 14 [(0, z_r 161), (2, z_i x2), (3, z_i x3), (4, z_i x4)] [] (sh, w) Q := by
  refine z_iload 3 dX9_widest_14 rfl ?_
  refine z_aload_n 0 dX9_widest_16 rfl rfl ?_
  refine z_getR (r := 163) zfRX9_17 dX9_widest_17 hh0.1 rfl ?_
  refine z_iconst dX9_widest_20 (by decide) ?_
  refine z_iald dX9_widest_21 hh0.2.2.1 (by decide) ?_
  refine z_icmp_ge (tgt := 88) dX9_widest_22 (by decide) (fun c1 => ?_) (fun c1 => ?_)
  · replace h := h.1 c1
    refine z_iload_n 1 dX9_widest_88 rfl rfl ?_
    exact z_ret (v := some (z_i x2)) dX9_widest_89 ⟨rfl, Or.inl rfl⟩ rfl rfl h
  · replace h := h.2 c1
    refine z_iconst dX9_widest_25 (by decide) ?_
    refine z_istore (L' := [(5, z_i 0), (0, z_r 161), (2, z_i x2), (3, z_i x3), (4, z_i x4)]) dX9_widest_26 (by decide) rfl ?_
    refine z_sub (L' := [(0, z_r 161), (2, z_i x2), (3, z_i x3), (4, z_i x4), (5, z_i 0)]) [1, 2, 3, 4, 0] rfl ?_
    exact h
set_option maxRecDepth 100000 in
theorem t_X9_widest_28 {sh : List z_C} {w : Nat → Int → Int} {Q : Option z_V → z_S → Prop} {x2 : Int} {x3 : Int} {x4 : Int} {x5 : Int} (hh0 : z_isMod sh 161) (h : (((w 163 1) ≤ x5 → (z_R (x4 + 1)) ∧ z_Sem mX9_widest (sh.length, 0) 14 [(0, z_r 161), (2, z_i x2), (3, z_i x3), (4, z_i (x4 + 1))] [] (sh, w) Q) ∧ (¬ (w 163 1) ≤ x5 → (¬ x4 = x5 → (s_X9_boundOf w x4 x5) ∧ (¬ (f_X9_boundOf w x4 x5) ≤ x3 → (z_R (10 * x4)) ∧ (z_R ((10 * x4) + x5)) ∧ (s_X9_boundOf w x4 x5) ∧ True) ∧ True) ∧ (z_R (x5 + 1)) ∧ z_Sem mX9_widest (sh.length, 0) 28 [(0, z_r 161), (2, z_i (if x4 = x5 then x2 else if (f_X9_boundOf w x4 x5) ≤ x3 then x2 else (10 * x4) + x5)), (3, z_i (if x4 = x5 then x3 else if (f_X9_boundOf w x4 x5) ≤ x3 then x3 else f_X9_boundOf w x4 x5)), (4, z_i x4), (5, z_i (x5 + 1))] [] (sh, w) Q))) : z_Sem mX9_widest (sh.length, 0) 28 [(0, z_r 161), (2, z_i x2), (3, z_i x3), (4, z_i x4), (5, z_i x5)] [] (sh, w) Q := by
  refine z_iload 4 dX9_widest_28 rfl ?_
  refine z_aload_n 0 dX9_widest_30 rfl rfl ?_
  refine z_getR (r := 163) zfRX9_17 dX9_widest_31 hh0.1 rfl ?_
  refine z_iconst dX9_widest_34 (by decide) ?_
  refine z_iald dX9_widest_35 hh0.2.2.1 (by decide) ?_
  refine z_icmp_ge (tgt := 82) dX9_widest_36 (by decide) (fun c1 => ?_) (fun c1 => ?_)
  · replace h := h.1 c1
    obtain ⟨q2, h⟩ := h
    refine z_iinc (L' := [(4, z_i (x4 + 1)), (0, z_r 161), (2, z_i x2), (3, z_i x3), (5, z_i x5)]) 3 dX9_widest_82 rfl (by decide) rfl q2 ?_
    refine z_goto (tgt := 14) dX9_widest_85 (by decide) ?_
    refine z_sub (L' := [(0, z_r 161), (2, z_i x2), (3, z_i x3), (4, z_i (x4 + 1))]) [1, 2, 3, 0] rfl ?_
    exact h
  · replace h := h.2 c1
    refine z_iload 3 dX9_widest_39 rfl ?_
    refine z_iload 4 dX9_widest_41 rfl ?_
    obtain ⟨m5, h⟩ := h
    suffices hJ3 : z_Sem mX9_widest (sh.length, 0) 76 [(0, z_r 161), (2, z_i (if x4 = x5 then x2 else if (f_X9_boundOf w x4 x5) ≤ x3 then x2 else (10 * x4) + x5)), (3, z_i (if x4 = x5 then x3 else if (f_X9_boundOf w x4 x5) ≤ x3 then x3 else f_X9_boundOf w x4 x5)), (4, z_i x4), (5, z_i x5)] [] (sh, w) Q by
      refine z_icmp_eq (tgt := 76) dX9_widest_43 (by decide) (fun c4 => ?_) (fun c4 => ?_)
      · skip
        simp only [if_pos c4] at hJ3
        exact hJ3
      · skip
        have ho7 := m5 c4
        refine z_aload_n 0 dX9_widest_46 rfl rfl ?_
        refine z_iload 3 dX9_widest_47 rfl ?_
        refine z_iload 4 dX9_widest_49 rfl ?_
        obtain ⟨q8, ho7⟩ := ho7
        refine z_callV (As := [z_i x4, z_i x5]) (rest := []) zmX9_boundOf znX9_boundOf zsX9_boundOf (show vwCl[9]? = some (RX9, TX9, 29) from rfl) zlRX9_113 ⟨Nat.le_of_ble_eq_true rfl, Nat.le_of_ble_eq_true rfl⟩ dX9_widest_51 hh0.1 rfl rfl (z_ai (z_ai z_a0)) (Nat.le_of_ble_eq_true rfl) (Nat.le_of_ble_eq_true rfl) ⟨Nat.le_refl _, Nat.le_refl _⟩ ?_
        refine t_X9_boundOf hh0 q8 ?_
        show z_Sem mX9_widest (sh.length, 0) 54 [(0, z_r 161), (2, z_i x2), (3, z_i x3), (4, z_i x4), (5, z_i x5)] [z_i (f_X9_boundOf w x4 x5)] (sh, w) Q
        refine z_iload_n 2 dX9_widest_54 rfl rfl ?_
        obtain ⟨m11, ho7⟩ := ho7
        suffices hJ9 : z_Sem mX9_widest (sh.length, 0) 76 [(0, z_r 161), (2, z_i (if (f_X9_boundOf w x4 x5) ≤ x3 then x2 else (10 * x4) + x5)), (3, z_i (if (f_X9_boundOf w x4 x5) ≤ x3 then x3 else f_X9_boundOf w x4 x5)), (4, z_i x4), (5, z_i x5)] [] (sh, w) Q by
          refine z_icmp_le (tgt := 76) dX9_widest_55 (by decide) (fun c10 => ?_) (fun c10 => ?_)
          · skip
            simp only [if_pos c10] at hJ9
            exact hJ9
          · skip
            have ho13 := m11 c10
            refine z_bipush dX9_widest_58 (by decide) (by decide) ?_
            refine z_iload 3 dX9_widest_60 rfl ?_
            obtain ⟨q14, ho13⟩ := ho13
            refine z_imul dX9_widest_62 q14 ?_
            refine z_iload 4 dX9_widest_63 rfl ?_
            obtain ⟨q15, ho13⟩ := ho13
            refine z_iadd dX9_widest_65 q15 ?_
            refine z_istore_n (L' := [(2, z_i ((10 * x4) + x5)), (0, z_r 161), (3, z_i x3), (4, z_i x4), (5, z_i x5)]) dX9_widest_66 rfl (by decide) rfl ?_
            refine z_aload_n 1 dX9_widest_67 rfl rfl ?_
            refine z_iload 3 dX9_widest_68 rfl ?_
            refine z_iload 4 dX9_widest_70 rfl ?_
            obtain ⟨q16, ho13⟩ := ho13
            refine z_callV (As := [z_i x4, z_i x5]) (rest := []) zmX9_boundOf znX9_boundOf zsX9_boundOf (show vwCl[9]? = some (RX9, TX9, 29) from rfl) zlRX9_113 ⟨Nat.le_of_ble_eq_true rfl, Nat.le_of_ble_eq_true rfl⟩ dX9_widest_72 hh0.1 rfl rfl (z_ai (z_ai z_a0)) (Nat.le_of_ble_eq_true rfl) (Nat.le_of_ble_eq_true rfl) ⟨Nat.le_refl _, Nat.le_refl _⟩ ?_
            refine t_X9_boundOf hh0 q16 ?_
            show z_Sem mX9_widest (sh.length, 0) 75 [(2, z_i ((10 * x4) + x5)), (0, z_r 161), (3, z_i x3), (4, z_i x4), (5, z_i x5)] [z_i (f_X9_boundOf w x4 x5)] (sh, w) Q
            refine z_istore_n (L' := [(3, z_i (f_X9_boundOf w x4 x5)), (2, z_i ((10 * x4) + x5)), (0, z_r 161), (4, z_i x4), (5, z_i x5)]) dX9_widest_75 rfl (by decide) rfl ?_
            refine z_sub (L' := [(0, z_r 161), (2, z_i ((10 * x4) + x5)), (3, z_i (f_X9_boundOf w x4 x5)), (4, z_i x4), (5, z_i x5)]) [2, 1, 0, 3, 4] rfl ?_
            simp only [if_neg c10] at hJ9
            exact hJ9
        simp only [if_neg c4] at hJ3
        exact hJ3
    obtain ⟨q17, h⟩ := h
    refine z_iinc (L' := [(5, z_i (x5 + 1)), (0, z_r 161), (2, z_i (if x4 = x5 then x2 else if (f_X9_boundOf w x4 x5) ≤ x3 then x2 else (10 * x4) + x5)), (3, z_i (if x4 = x5 then x3 else if (f_X9_boundOf w x4 x5) ≤ x3 then x3 else f_X9_boundOf w x4 x5)), (4, z_i x4)]) 4 dX9_widest_76 rfl (by decide) rfl q17 ?_
    refine z_goto (tgt := 28) dX9_widest_79 (by decide) ?_
    refine z_sub (L' := [(0, z_r 161), (2, z_i (if x4 = x5 then x2 else if (f_X9_boundOf w x4 x5) ≤ x3 then x2 else (10 * x4) + x5)), (3, z_i (if x4 = x5 then x3 else if (f_X9_boundOf w x4 x5) ≤ x3 then x3 else f_X9_boundOf w x4 x5)), (4, z_i x4), (5, z_i (x5 + 1))]) [1, 2, 3, 4, 0] rfl ?_
    exact h
set_option maxRecDepth 100000 in
theorem t_X9_freest {sh : List z_C} {w : Nat → Int → Int} {Q : Option z_V → z_S → Prop}  (hh0 : z_isMod sh 161) (h : z_CI mX9_lays [z_r 161] sh w (fun y2 w1 => z_Sem mX9_freest (sh.length, 0) 9 [(0, z_r 161), (2, z_i 0), (3, z_i 1)] [] (sh, w1) Q)) : z_Sem mX9_freest (sh.length, 0) 0 [(0, z_r 161)] [] (sh, w) Q := by
  refine z_aload_n 0 dX9_freest_0 rfl rfl ?_
  refine z_callV (As := []) (rest := []) zmX9_lays znX9_lays zsX9_lays (show vwCl[9]? = some (RX9, TX9, 29) from rfl) zlRX9_126 ⟨Nat.le_of_ble_eq_true rfl, Nat.le_of_ble_eq_true rfl⟩ dX9_freest_1 hh0.1 rfl rfl z_a0 (Nat.le_of_ble_eq_true rfl) (Nat.le_of_ble_eq_true rfl) ⟨Nat.le_refl _, Nat.le_refl _⟩ (z_CIm h ?_)
  intro y2 w1 h
  show z_Sem mX9_freest (sh.length, 0) 4 [(0, z_r 161)] [z_i y2] (sh, w1) Q
  refine z_istore_n (L' := [(1, z_i y2), (0, z_r 161)]) dX9_freest_4 rfl (by decide) rfl ?_
  refine z_iconst dX9_freest_5 (by decide) ?_
  refine z_istore_n (L' := [(2, z_i 0), (1, z_i y2), (0, z_r 161)]) dX9_freest_6 rfl (by decide) rfl ?_
  refine z_iconst dX9_freest_7 (by decide) ?_
  refine z_istore_n (L' := [(3, z_i 1), (2, z_i 0), (1, z_i y2), (0, z_r 161)]) dX9_freest_8 rfl (by decide) rfl ?_
  refine z_sub (L' := [(0, z_r 161), (2, z_i 0), (3, z_i 1)]) [3, 1, 0] rfl ?_
  exact h
set_option maxRecDepth 100000 in
theorem t_X9_freest_9 {sh : List z_C} {w : Nat → Int → Int} {Q : Option z_V → z_S → Prop} {x2 : Int} {x3 : Int} (hh0 : z_isMod sh 161) (h : (((w 163 1) ≤ x3 → Q (some (z_i x2)) (sh, w)) ∧ (¬ (w 163 1) ≤ x3 → (s_X9_roomOf w x3) ∧ (s_X9_roomOf w x2) ∧ ∀ y8 : Int, y8 = (if (f_X9_roomOf w x3) ≤ (f_X9_roomOf w x2) then x2 else x3) → (z_R (x3 + 1)) ∧ z_Sem mX9_freest (sh.length, 0) 9 [(0, z_r 161), (2, z_i y8), (3, z_i (x3 + 1))] [] (sh, w) Q))) : z_Sem mX9_freest (sh.length, 0) 9 [(0, z_r 161), (2, z_i x2), (3, z_i x3)] [] (sh, w) Q := by
  refine z_iload_n 2 dX9_freest_9 rfl rfl ?_
  refine z_aload_n 0 dX9_freest_10 rfl rfl ?_
  refine z_getR (r := 163) zfRX9_17 dX9_freest_11 hh0.1 rfl ?_
  refine z_iconst dX9_freest_14 (by decide) ?_
  refine z_iald dX9_freest_15 hh0.2.2.1 (by decide) ?_
  refine z_icmp_ge (tgt := 44) dX9_freest_16 (by decide) (fun c1 => ?_) (fun c1 => ?_)
  · replace h := h.1 c1
    refine z_iload_n 1 dX9_freest_44 rfl rfl ?_
    exact z_ret (v := some (z_i x2)) dX9_freest_45 ⟨rfl, Or.inl rfl⟩ rfl rfl h
  · replace h := h.2 c1
    refine z_aload_n 0 dX9_freest_19 rfl rfl ?_
    refine z_iload_n 2 dX9_freest_20 rfl rfl ?_
    obtain ⟨q2, h⟩ := h
    refine z_callV (As := [z_i x3]) (rest := []) zmX9_roomOf znX9_roomOf zsX9_roomOf (show vwCl[9]? = some (RX9, TX9, 29) from rfl) zlRX9_123 ⟨Nat.le_of_ble_eq_true rfl, Nat.le_of_ble_eq_true rfl⟩ dX9_freest_21 hh0.1 rfl rfl (z_ai z_a0) (Nat.le_of_ble_eq_true rfl) (Nat.le_of_ble_eq_true rfl) ⟨Nat.le_refl _, Nat.le_refl _⟩ ?_
    refine t_X9_roomOf hh0 q2 ?_
    show z_Sem mX9_freest (sh.length, 0) 24 [(0, z_r 161), (2, z_i x2), (3, z_i x3)] [z_i (f_X9_roomOf w x3)] (sh, w) Q
    refine z_aload_n 0 dX9_freest_24 rfl rfl ?_
    refine z_iload_n 1 dX9_freest_25 rfl rfl ?_
    obtain ⟨q3, h⟩ := h
    refine z_callV (As := [z_i x2]) (rest := [z_i (f_X9_roomOf w x3)]) zmX9_roomOf znX9_roomOf zsX9_roomOf (show vwCl[9]? = some (RX9, TX9, 29) from rfl) zlRX9_123 ⟨Nat.le_of_ble_eq_true rfl, Nat.le_of_ble_eq_true rfl⟩ dX9_freest_26 hh0.1 rfl rfl (z_ai z_a0) (Nat.le_of_ble_eq_true rfl) (Nat.le_of_ble_eq_true rfl) ⟨Nat.le_refl _, Nat.le_refl _⟩ ?_
    refine t_X9_roomOf hh0 q3 ?_
    show z_Sem mX9_freest (sh.length, 0) 29 [(0, z_r 161), (2, z_i x2), (3, z_i x3)] [z_i (f_X9_roomOf w x2), z_i (f_X9_roomOf w x3)] (sh, w) Q
    suffices hJ4 : z_Sem mX9_freest (sh.length, 0) 37 [(0, z_r 161), (3, z_i x3)] [z_i (if (f_X9_roomOf w x3) ≤ (f_X9_roomOf w x2) then x2 else x3)] (sh, w) Q by
      refine z_icmp_le (tgt := 36) dX9_freest_29 (by decide) (fun c5 => ?_) (fun c5 => ?_)
      · skip
        refine z_iload_n 1 dX9_freest_36 rfl rfl ?_
        refine z_sub (L' := [(0, z_r 161), (3, z_i x3)]) [0, 2] rfl ?_
        simp only [if_pos c5] at hJ4
        exact hJ4
      · skip
        refine z_iload_n 2 dX9_freest_32 rfl rfl ?_
        refine z_goto (tgt := 37) dX9_freest_33 (by decide) ?_
        refine z_sub (L' := [(0, z_r 161), (3, z_i x3)]) [0, 2] rfl ?_
        simp only [if_neg c5] at hJ4
        exact hJ4
    refine z_nam (fun y8 hy8 => ?_)
    replace h := h y8 hy8
    refine z_istore_n (L' := [(2, z_i y8), (0, z_r 161), (3, z_i x3)]) dX9_freest_37 rfl (by decide) rfl ?_
    obtain ⟨q9, h⟩ := h
    refine z_iinc (L' := [(3, z_i (x3 + 1)), (2, z_i y8), (0, z_r 161)]) 2 dX9_freest_38 rfl (by decide) rfl q9 ?_
    refine z_goto (tgt := 9) dX9_freest_41 (by decide) ?_
    refine z_sub (L' := [(0, z_r 161), (2, z_i y8), (3, z_i (x3 + 1))]) [2, 1, 0] rfl ?_
    exact h
set_option maxRecDepth 100000 in
theorem t_X9_laysAside {sh : List z_C} {w : Nat → Int → Int} {Q : Option z_V → z_S → Prop} {x1 : Int} {x2 : Int} {x3 : Int} {x4 : Int} (hh0 : z_isMod sh 161) (h : ∀ w5 : Nat → Int → Int, w5 = z_W w 161 23 (if x3 = 0 then x1 else x2) → ∀ w10 : Nat → Int → Int, w10 = z_W w5 161 24 (if x3 = 0 then x2 else x1) → (¬ x3 = 0 → (z_R (-x4)) ∧ True) ∧ ∀ w17 : Nat → Int → Int, w17 = z_W w10 161 25 (if x3 = 0 then x4 else -x4) → Q none (sh, w17)) : z_Sem mX9_laysAside (sh.length, 0) 0 [(0, z_r 161), (1, z_i x1), (2, z_i x2), (3, z_i x3), (4, z_i x4)] [] (sh, w) Q := by
  refine z_aload_n 0 dX9_laysAside_0 rfl rfl ?_
  refine z_iload_n 3 dX9_laysAside_1 rfl rfl ?_
  suffices hJ1 : z_Sem mX9_laysAside (sh.length, 0) 10 [(0, z_r 161), (1, z_i x1), (2, z_i x2), (3, z_i x3), (4, z_i x4)] [z_i (if x3 = 0 then x1 else x2), z_r 161] (sh, w) Q by
    refine z_if_ne (tgt := 9) dX9_laysAside_2 (by decide) (fun c2 => ?_) (fun c2 => ?_)
    · skip
      refine z_iload_n 2 dX9_laysAside_9 rfl rfl ?_
      simp only [if_neg c2] at hJ1
      exact hJ1
    · skip
      refine z_iload_n 1 dX9_laysAside_5 rfl rfl ?_
      refine z_goto (tgt := 10) dX9_laysAside_6 (by decide) ?_
      simp only [if_pos c2] at hJ1
      exact hJ1
  refine z_putI (ki := 23) zfRX9_299 dX9_laysAside_10 hh0.1 rfl rfl ?_
  refine z_genw (fun w5 hw5 => ?_)
  replace h := h w5 hw5
  refine z_aload_n 0 dX9_laysAside_13 rfl rfl ?_
  refine z_iload_n 3 dX9_laysAside_14 rfl rfl ?_
  suffices hJ6 : z_Sem mX9_laysAside (sh.length, 0) 23 [(0, z_r 161), (3, z_i x3), (4, z_i x4)] [z_i (if x3 = 0 then x2 else x1), z_r 161] (sh, w5) Q by
    refine z_if_ne (tgt := 22) dX9_laysAside_15 (by decide) (fun c7 => ?_) (fun c7 => ?_)
    · skip
      refine z_iload_n 1 dX9_laysAside_22 rfl rfl ?_
      refine z_sub (L' := [(0, z_r 161), (3, z_i x3), (4, z_i x4)]) [0, 3, 4] rfl ?_
      simp only [if_neg c7] at hJ6
      exact hJ6
    · skip
      refine z_iload_n 2 dX9_laysAside_18 rfl rfl ?_
      refine z_goto (tgt := 23) dX9_laysAside_19 (by decide) ?_
      refine z_sub (L' := [(0, z_r 161), (3, z_i x3), (4, z_i x4)]) [0, 3, 4] rfl ?_
      simp only [if_pos c7] at hJ6
      exact hJ6
  refine z_putI (ki := 24) zfRX9_302 dX9_laysAside_23 hh0.1 rfl rfl ?_
  refine z_genw (fun w10 hw10 => ?_)
  replace h := h w10 hw10
  refine z_aload_n 0 dX9_laysAside_26 rfl rfl ?_
  refine z_iload_n 1 dX9_laysAside_27 rfl rfl ?_
  obtain ⟨m13, h⟩ := h
  suffices hJ11 : z_Sem mX9_laysAside (sh.length, 0) 39 [] [z_i (if x3 = 0 then x4 else -x4), z_r 161] (sh, w10) Q by
    refine z_if_ne (tgt := 36) dX9_laysAside_28 (by decide) (fun c12 => ?_) (fun c12 => ?_)
    · skip
      have ho14 := m13 c12
      refine z_iload 2 dX9_laysAside_36 rfl ?_
      obtain ⟨q15, ho14⟩ := ho14
      refine z_ineg dX9_laysAside_38 q15 ?_
      refine z_sub (L' := []) [] rfl ?_
      simp only [if_neg c12] at hJ11
      exact hJ11
    · skip
      refine z_iload 2 dX9_laysAside_31 rfl ?_
      refine z_goto (tgt := 39) dX9_laysAside_33 (by decide) ?_
      refine z_sub (L' := []) [] rfl ?_
      simp only [if_pos c12] at hJ11
      exact hJ11
  refine z_putI (ki := 25) zfRX9_305 dX9_laysAside_39 hh0.1 rfl rfl ?_
  refine z_genw (fun w17 hw17 => ?_)
  replace h := h w17 hw17
  exact z_ret (v := none) dX9_laysAside_42 ⟨rfl, rfl⟩ rfl rfl h
def f_X9_leastRing (w : Nat → Int → Int)  : Int := (w 161 25) + (f_X9_boundOf w (w 161 24) (w 161 23))
def s_X9_leastRing (w : Nat → Int → Int)  : Prop := (s_X9_boundOf w (w 161 24) (w 161 23)) ∧ (z_R ((w 161 25) + (f_X9_boundOf w (w 161 24) (w 161 23)))) ∧ True
set_option maxRecDepth 100000 in
theorem t_X9_leastRing {sh : List z_C} {w : Nat → Int → Int} {Q : Option z_V → z_S → Prop}  (hh0 : z_isMod sh 161) (hs : s_X9_leastRing w ) (h : Q (some (z_i (f_X9_leastRing w))) (sh, w)) : z_Sem mX9_leastRing (sh.length, 0) 0 [(0, z_r 161)] [] (sh, w) Q := by
  unfold f_X9_leastRing at h
  unfold s_X9_leastRing at hs
  refine z_aload_n 0 dX9_leastRing_0 rfl rfl ?_
  refine z_getI (ki := 25) zfRX9_305 dX9_leastRing_1 hh0.1 rfl rfl ?_
  refine z_aload_n 0 dX9_leastRing_4 rfl rfl ?_
  refine z_aload_n 0 dX9_leastRing_5 rfl rfl ?_
  refine z_getI (ki := 24) zfRX9_302 dX9_leastRing_6 hh0.1 rfl rfl ?_
  refine z_aload_n 0 dX9_leastRing_9 rfl rfl ?_
  refine z_getI (ki := 23) zfRX9_299 dX9_leastRing_10 hh0.1 rfl rfl ?_
  obtain ⟨q1, hs⟩ := hs
  refine z_callV (As := [z_i (w 161 24), z_i (w 161 23)]) (rest := [z_i (w 161 25)]) zmX9_boundOf znX9_boundOf zsX9_boundOf (show vwCl[9]? = some (RX9, TX9, 29) from rfl) zlRX9_113 ⟨Nat.le_of_ble_eq_true rfl, Nat.le_of_ble_eq_true rfl⟩ dX9_leastRing_13 hh0.1 rfl rfl (z_ai (z_ai z_a0)) (Nat.le_of_ble_eq_true rfl) (Nat.le_of_ble_eq_true rfl) ⟨Nat.le_refl _, Nat.le_refl _⟩ ?_
  refine t_X9_boundOf hh0 q1 ?_
  show z_Sem mX9_leastRing (sh.length, 0) 16 [(0, z_r 161)] [z_i (f_X9_boundOf w (w 161 24) (w 161 23)), z_i (w 161 25)] (sh, w) Q
  obtain ⟨q2, hs⟩ := hs
  refine z_iadd dX9_leastRing_16 q2 ?_
  exact z_ret (v := some (z_i ((w 161 25) + (f_X9_boundOf w (w 161 24) (w 161 23))))) dX9_leastRing_17 ⟨rfl, Or.inl rfl⟩ rfl rfl h
set_option maxRecDepth 100000 in
theorem t_X9_isShortRing {sh : List z_C} {w : Nat → Int → Int} {Q : Option z_V → z_S → Prop}  (hh0 : z_isMod sh 161) (h : z_Sem mX9_isShortRing (sh.length, 0) 4 [(0, z_r 161), (1, z_i 0), (2, z_i 0)] [] (sh, w) Q) : z_Sem mX9_isShortRing (sh.length, 0) 0 [(0, z_r 161)] [] (sh, w) Q := by
  refine z_iconst dX9_isShortRing_0 (by decide) ?_
  refine z_istore_n (L' := [(1, z_i 0), (0, z_r 161)]) dX9_isShortRing_1 rfl (by decide) rfl ?_
  refine z_iconst dX9_isShortRing_2 (by decide) ?_
  refine z_istore_n (L' := [(2, z_i 0), (1, z_i 0), (0, z_r 161)]) dX9_isShortRing_3 rfl (by decide) rfl ?_
  refine z_sub (L' := [(0, z_r 161), (1, z_i 0), (2, z_i 0)]) [2, 1, 0] rfl ?_
  exact h
set_option maxRecDepth 100000 in
theorem t_X9_isShortRing_4 {sh : List z_C} {w : Nat → Int → Int} {Q : Option z_V → z_S → Prop} {x1 : Int} {x2 : Int} (hh0 : z_isMod sh 161) (h : (((w 161 13) ≤ x2 → ((0 : Int) ≤ x1 ∧ x1 ≤ 1) ∧ Q (some (z_i x1)) (sh, w)) ∧ (¬ (w 161 13) ≤ x2 → (x1 = 0 → ((0 : Int) ≤ x2 ∧ x2 < 60) ∧ ((w 168 x2) = (w 161 24) → ((0 : Int) ≤ x2 ∧ x2 < 60) ∧ ((w 169 x2) = (w 161 23) → ((0 : Int) ≤ x2 ∧ x2 < 60) ∧ (z_R ((w 161 25) + (w 170 x2))) ∧ True) ∧ True) ∧ True) ∧ ∀ y26 : Int, y26 = (if x1 = 0 then (if (w 168 x2) = (w 161 24) then (if (w 169 x2) = (w 161 23) then (if 0 ≤ ((w 161 25) + (w 170 x2)) then 0 else 1) else 0) else 0) else 1) → (z_R (x2 + 1)) ∧ z_Sem mX9_isShortRing (sh.length, 0) 4 [(0, z_r 161), (1, z_i y26), (2, z_i (x2 + 1))] [] (sh, w) Q))) : z_Sem mX9_isShortRing (sh.length, 0) 4 [(0, z_r 161), (1, z_i x1), (2, z_i x2)] [] (sh, w) Q := by
  refine z_iload_n 2 dX9_isShortRing_4 rfl rfl ?_
  refine z_aload_n 0 dX9_isShortRing_5 rfl rfl ?_
  refine z_getI (ki := 13) zfRX9_84 dX9_isShortRing_6 hh0.1 rfl rfl ?_
  refine z_icmp_ge (tgt := 68) dX9_isShortRing_9 (by decide) (fun c1 => ?_) (fun c1 => ?_)
  · replace h := h.1 c1
    refine z_iload_n 1 dX9_isShortRing_68 rfl rfl ?_
    obtain ⟨q2, h⟩ := h
    exact z_ret (v := some (z_i x1)) dX9_isShortRing_69 ⟨rfl, Or.inr (Or.inl ⟨rfl, q2⟩)⟩ rfl rfl h
  · replace h := h.2 c1
    refine z_iload_n 1 dX9_isShortRing_12 rfl rfl ?_
    obtain ⟨m5, h⟩ := h
    suffices hJ3 : z_Sem mX9_isShortRing (sh.length, 0) 61 [(0, z_r 161), (2, z_i x2)] [z_i (if x1 = 0 then (if (w 168 x2) = (w 161 24) then (if (w 169 x2) = (w 161 23) then (if 0 ≤ ((w 161 25) + (w 170 x2)) then 0 else 1) else 0) else 0) else 1)] (sh, w) Q by
      refine z_if_ne (tgt := 56) dX9_isShortRing_13 (by decide) (fun c4 => ?_) (fun c4 => ?_)
      · skip
        refine z_iconst dX9_isShortRing_56 (by decide) ?_
        refine z_goto (tgt := 61) dX9_isShortRing_57 (by decide) ?_
        refine z_sub (L' := [(0, z_r 161), (2, z_i x2)]) [0, 2] rfl ?_
        simp only [if_neg c4] at hJ3
        exact hJ3
      · skip
        have ho7 := m5 c4
        refine z_aload_n 0 dX9_isShortRing_16 rfl rfl ?_
        refine z_getR (r := 168) zfRX9_34 dX9_isShortRing_17 hh0.1 rfl ?_
        refine z_iload_n 2 dX9_isShortRing_20 rfl rfl ?_
        obtain ⟨q8, ho7⟩ := ho7
        refine z_iald dX9_isShortRing_21 hh0.2.2.2.2.2.2.2.1 q8 ?_
        refine z_aload_n 0 dX9_isShortRing_22 rfl rfl ?_
        refine z_getI (ki := 24) zfRX9_302 dX9_isShortRing_23 hh0.1 rfl rfl ?_
        obtain ⟨m11, ho7⟩ := ho7
        suffices hJ9 : z_Sem mX9_isShortRing (sh.length, 0) 61 [(0, z_r 161), (2, z_i x2)] [z_i (if (w 168 x2) = (w 161 24) then (if (w 169 x2) = (w 161 23) then (if 0 ≤ ((w 161 25) + (w 170 x2)) then 0 else 1) else 0) else 0)] (sh, w) Q by
          refine z_icmp_ne (tgt := 60) dX9_isShortRing_26 (by decide) (fun c10 => ?_) (fun c10 => ?_)
          · skip
            refine z_iconst dX9_isShortRing_60 (by decide) ?_
            refine z_sub (L' := [(0, z_r 161), (2, z_i x2)]) [0, 2] rfl ?_
            simp only [if_neg c10] at hJ9
            exact hJ9
          · skip
            have ho13 := m11 c10
            refine z_aload_n 0 dX9_isShortRing_29 rfl rfl ?_
            refine z_getR (r := 169) zfRX9_37 dX9_isShortRing_30 hh0.1 rfl ?_
            refine z_iload_n 2 dX9_isShortRing_33 rfl rfl ?_
            obtain ⟨q14, ho13⟩ := ho13
            refine z_iald dX9_isShortRing_34 hh0.2.2.2.2.2.2.2.2.1 q14 ?_
            refine z_aload_n 0 dX9_isShortRing_35 rfl rfl ?_
            refine z_getI (ki := 23) zfRX9_299 dX9_isShortRing_36 hh0.1 rfl rfl ?_
            obtain ⟨m17, ho13⟩ := ho13
            suffices hJ15 : z_Sem mX9_isShortRing (sh.length, 0) 61 [(0, z_r 161), (2, z_i x2)] [z_i (if (w 169 x2) = (w 161 23) then (if 0 ≤ ((w 161 25) + (w 170 x2)) then 0 else 1) else 0)] (sh, w) Q by
              refine z_icmp_ne (tgt := 60) dX9_isShortRing_39 (by decide) (fun c16 => ?_) (fun c16 => ?_)
              · skip
                refine z_iconst dX9_isShortRing_60 (by decide) ?_
                refine z_sub (L' := [(0, z_r 161), (2, z_i x2)]) [0, 2] rfl ?_
                simp only [if_neg c16] at hJ15
                exact hJ15
              · skip
                have ho19 := m17 c16
                refine z_aload_n 0 dX9_isShortRing_42 rfl rfl ?_
                refine z_getI (ki := 25) zfRX9_305 dX9_isShortRing_43 hh0.1 rfl rfl ?_
                refine z_aload_n 0 dX9_isShortRing_46 rfl rfl ?_
                refine z_getR (r := 170) zfRX9_40 dX9_isShortRing_47 hh0.1 rfl ?_
                refine z_iload_n 2 dX9_isShortRing_50 rfl rfl ?_
                obtain ⟨q20, ho19⟩ := ho19
                refine z_iald dX9_isShortRing_51 hh0.2.2.2.2.2.2.2.2.2.1 q20 ?_
                obtain ⟨q21, ho19⟩ := ho19
                refine z_iadd dX9_isShortRing_52 q21 ?_
                suffices hJ22 : z_Sem mX9_isShortRing (sh.length, 0) 61 [(0, z_r 161), (2, z_i x2)] [z_i (if 0 ≤ ((w 161 25) + (w 170 x2)) then 0 else 1)] (sh, w) Q by
                  refine z_if_ge (tgt := 60) dX9_isShortRing_53 (by decide) (fun c23 => ?_) (fun c23 => ?_)
                  · skip
                    refine z_iconst dX9_isShortRing_60 (by decide) ?_
                    refine z_sub (L' := [(0, z_r 161), (2, z_i x2)]) [0, 2] rfl ?_
                    simp only [if_pos c23] at hJ22
                    exact hJ22
                  · skip
                    refine z_iconst dX9_isShortRing_56 (by decide) ?_
                    refine z_goto (tgt := 61) dX9_isShortRing_57 (by decide) ?_
                    refine z_sub (L' := [(0, z_r 161), (2, z_i x2)]) [0, 2] rfl ?_
                    simp only [if_neg c23] at hJ22
                    exact hJ22
                simp only [if_pos c16] at hJ15
                exact hJ15
            simp only [if_pos c10] at hJ9
            exact hJ9
        simp only [if_pos c4] at hJ3
        exact hJ3
    refine z_nam (fun y26 hy26 => ?_)
    replace h := h y26 hy26
    refine z_istore_n (L' := [(1, z_i y26), (0, z_r 161), (2, z_i x2)]) dX9_isShortRing_61 rfl (by decide) rfl ?_
    obtain ⟨q27, h⟩ := h
    refine z_iinc (L' := [(2, z_i (x2 + 1)), (1, z_i y26), (0, z_r 161)]) 2 dX9_isShortRing_62 rfl (by decide) rfl q27 ?_
    refine z_goto (tgt := 4) dX9_isShortRing_65 (by decide) ?_
    refine z_sub (L' := [(0, z_r 161), (1, z_i y26), (2, z_i (x2 + 1))]) [2, 1, 0] rfl ?_
    exact h
set_option maxRecDepth 100000 in
theorem t_X9_why {sh : List z_C} {w : Nat → Int → Int} {Q : Option z_V → z_S → Prop} {x1 : Int} {x2 : Int} {x3 : Int} {x4 : Int} {x5 : Int} (hh0 : z_isMod sh 161) (h : (s_X9_areTwo w x1 x2) ∧ (((f_X9_areTwo w x1 x2) = 0 → Q (some (z_i (-1))) (sh, w)) ∧ (¬ (f_X9_areTwo w x1 x2) = 0 → (((f_X9_isN w x3 x4) = 0 → Q (some (z_i (-1))) (sh, w)) ∧ (¬ (f_X9_isN w x3 x4) = 0 → (((f_X9_in w x5 0 2) = 0 → Q (some (z_i (-1))) (sh, w)) ∧ (¬ (f_X9_in w x5 0 2) = 0 → z_CI mX9_lays [z_r 161] sh w (fun y6 w5 => z_CV mX9_laysAside [z_r 161, z_i x1, z_i x2, z_i x3, z_i x4] sh w5 (fun w7 => (s_X9_leastRing w7) ∧ (((f_X9_leastRing w7) < 0 → ((2 ≤ x5 → z_CI mX9_laysWay [z_r 161, z_i (w7 161 24), z_i (w7 161 23)] sh w7 (fun y12 w11 => Q (some (z_i (w11 174 0))) (sh, w11))) ∧ (¬ 2 ≤ x5 → ((x5 = 1 → (s_X9_leastRing w7) ∧ (z_R (-(f_X9_leastRing w7))) ∧ Q (some (z_i (-(f_X9_leastRing w7)))) (sh, w7)) ∧ (¬ x5 = 1 → z_CI mX9_isShortRing [z_r 161] sh w7 (fun y15 w14 => Q (some (z_i (if y15 = 0 then 2 else 1))) (sh, w14))))))) ∧ (¬ (f_X9_leastRing w7) < 0 → Q (some (z_i (if x5 = 0 then 0 else -2))) (sh, w7)))))))))))) : z_Sem mX9_why (sh.length, 0) 0 [(0, z_r 161), (1, z_i x1), (2, z_i x2), (3, z_i x3), (4, z_i x4), (5, z_i x5)] [] (sh, w) Q := by
  refine z_aload_n 0 dX9_why_0 rfl rfl ?_
  refine z_iload_n 1 dX9_why_1 rfl rfl ?_
  refine z_iload_n 2 dX9_why_2 rfl rfl ?_
  obtain ⟨q1, h⟩ := h
  refine z_callV (As := [z_i x1, z_i x2]) (rest := []) zmX9_areTwo znX9_areTwo zsX9_areTwo (show vwCl[9]? = some (RX9, TX9, 29) from rfl) zlRX9_143 ⟨Nat.le_of_ble_eq_true rfl, Nat.le_of_ble_eq_true rfl⟩ dX9_why_3 hh0.1 rfl rfl (z_ai (z_ai z_a0)) (Nat.le_of_ble_eq_true rfl) (Nat.le_of_ble_eq_true rfl) ⟨Nat.le_refl _, Nat.le_refl _⟩ ?_
  refine t_X9_areTwo hh0 q1 ?_
  show z_Sem mX9_why (sh.length, 0) 6 [(0, z_r 161), (1, z_i x1), (2, z_i x2), (3, z_i x3), (4, z_i x4), (5, z_i x5)] [z_i (f_X9_areTwo w x1 x2)] (sh, w) Q
  refine z_if_eq (tgt := 28) dX9_why_6 (by decide) (fun c2 => ?_) (fun c2 => ?_)
  · replace h := h.1 c2
    refine z_iconst dX9_why_28 (by decide) ?_
    exact z_ret (v := some (z_i (-1))) dX9_why_29 ⟨rfl, Or.inl rfl⟩ rfl rfl h
  · replace h := h.2 c2
    refine z_iload_n 3 dX9_why_9 rfl rfl ?_
    refine z_iload 4 dX9_why_10 rfl ?_
    refine z_callS (As := [z_i x3, z_i x4]) (rest := []) zmX9_isN ztX9_isN zlRX9_147 ⟨Nat.le_of_ble_eq_true rfl, Nat.le_of_ble_eq_true rfl⟩ dX9_why_12 rfl rfl (z_ai (z_ai z_a0)) (Nat.le_of_ble_eq_true rfl) (Nat.le_of_ble_eq_true rfl) ⟨Nat.le_refl _, Nat.le_refl _⟩ ?_
    refine t_X9_isN  ?_
    show z_Sem mX9_why (sh.length, 0) 15 [(0, z_r 161), (1, z_i x1), (2, z_i x2), (3, z_i x3), (4, z_i x4), (5, z_i x5)] [z_i (f_X9_isN w x3 x4)] (sh, w) Q
    refine z_if_eq (tgt := 28) dX9_why_15 (by decide) (fun c3 => ?_) (fun c3 => ?_)
    · replace h := h.1 c3
      refine z_iconst dX9_why_28 (by decide) ?_
      exact z_ret (v := some (z_i (-1))) dX9_why_29 ⟨rfl, Or.inl rfl⟩ rfl rfl h
    · replace h := h.2 c3
      refine z_iload 5 dX9_why_18 rfl ?_
      refine z_iconst dX9_why_20 (by decide) ?_
      refine z_iconst dX9_why_21 (by decide) ?_
      refine z_callS (As := [z_i x5, z_i 0, z_i 2]) (rest := []) zmX9_in ztX9_in zlRX9_65 ⟨Nat.le_of_ble_eq_true rfl, Nat.le_of_ble_eq_true rfl⟩ dX9_why_22 rfl rfl (z_ai (z_ai (z_ai z_a0))) (Nat.le_of_ble_eq_true rfl) (Nat.le_of_ble_eq_true rfl) ⟨Nat.le_refl _, Nat.le_refl _⟩ ?_
      refine t_X9_in  ?_
      show z_Sem mX9_why (sh.length, 0) 25 [(0, z_r 161), (1, z_i x1), (2, z_i x2), (3, z_i x3), (4, z_i x4), (5, z_i x5)] [z_i (f_X9_in w x5 0 2)] (sh, w) Q
      refine z_if_ne (tgt := 30) dX9_why_25 (by decide) (fun c4 => ?_) (fun c4 => ?_)
      · replace h := h.2 c4
        refine z_aload_n 0 dX9_why_30 rfl rfl ?_
        refine z_callV (As := []) (rest := []) zmX9_lays znX9_lays zsX9_lays (show vwCl[9]? = some (RX9, TX9, 29) from rfl) zlRX9_126 ⟨Nat.le_of_ble_eq_true rfl, Nat.le_of_ble_eq_true rfl⟩ dX9_why_31 hh0.1 rfl rfl z_a0 (Nat.le_of_ble_eq_true rfl) (Nat.le_of_ble_eq_true rfl) ⟨Nat.le_refl _, Nat.le_refl _⟩ (z_CIm h ?_)
        intro y6 w5 h
        show z_Sem mX9_why (sh.length, 0) 34 [(0, z_r 161), (1, z_i x1), (2, z_i x2), (3, z_i x3), (4, z_i x4), (5, z_i x5)] [z_i y6] (sh, w5) Q
        refine z_istore (L' := [(6, z_i y6), (0, z_r 161), (1, z_i x1), (2, z_i x2), (3, z_i x3), (4, z_i x4), (5, z_i x5)]) dX9_why_34 (by decide) rfl ?_
        refine z_aload_n 1 dX9_why_36 rfl rfl ?_
        refine z_iload_n 2 dX9_why_37 rfl rfl ?_
        refine z_iload_n 3 dX9_why_38 rfl rfl ?_
        refine z_iload_n 4 dX9_why_39 rfl rfl ?_
        refine z_iload 5 dX9_why_40 rfl ?_
        refine z_callV (As := [z_i x1, z_i x2, z_i x3, z_i x4]) (rest := []) zmX9_laysAside znX9_laysAside zsX9_laysAside (show vwCl[9]? = some (RX9, TX9, 29) from rfl) zlRX9_308 ⟨Nat.le_of_ble_eq_true rfl, Nat.le_of_ble_eq_true rfl⟩ dX9_why_42 hh0.1 rfl rfl (z_ai (z_ai (z_ai (z_ai z_a0)))) (Nat.le_of_ble_eq_true rfl) (Nat.le_of_ble_eq_true rfl) ⟨Nat.le_refl _, Nat.le_refl _⟩ (z_CVm h ?_)
        intro w7 h
        show z_Sem mX9_why (sh.length, 0) 45 [(6, z_i y6), (0, z_r 161), (1, z_i x1), (2, z_i x2), (3, z_i x3), (4, z_i x4), (5, z_i x5)] [] (sh, w7) Q
        refine z_aload_n 1 dX9_why_45 rfl rfl ?_
        obtain ⟨q8, h⟩ := h
        refine z_callV (As := []) (rest := []) zmX9_leastRing znX9_leastRing zsX9_leastRing (show vwCl[9]? = some (RX9, TX9, 29) from rfl) zlRX9_311 ⟨Nat.le_of_ble_eq_true rfl, Nat.le_of_ble_eq_true rfl⟩ dX9_why_46 hh0.1 rfl rfl z_a0 (Nat.le_of_ble_eq_true rfl) (Nat.le_of_ble_eq_true rfl) ⟨Nat.le_refl _, Nat.le_refl _⟩ ?_
        refine t_X9_leastRing hh0 q8 ?_
        show z_Sem mX9_why (sh.length, 0) 49 [(6, z_i y6), (0, z_r 161), (1, z_i x1), (2, z_i x2), (3, z_i x3), (4, z_i x4), (5, z_i x5)] [z_i (f_X9_leastRing w7)] (sh, w7) Q
        refine z_if_lt (tgt := 64) dX9_why_49 (by decide) (fun c9 => ?_) (fun c9 => ?_)
        · replace h := h.1 c9
          refine z_iload 6 dX9_why_64 rfl ?_
          refine z_iconst dX9_why_66 (by decide) ?_
          refine z_icmp_ge (tgt := 97) dX9_why_67 (by decide) (fun c10 => ?_) (fun c10 => ?_)
          · replace h := h.1 c10
            refine z_aload_n 1 dX9_why_97 rfl rfl ?_
            refine z_aload_n 1 dX9_why_98 rfl rfl ?_
            refine z_getI (ki := 24) zfRX9_302 dX9_why_99 hh0.1 rfl rfl ?_
            refine z_aload_n 1 dX9_why_102 rfl rfl ?_
            refine z_getI (ki := 23) zfRX9_299 dX9_why_103 hh0.1 rfl rfl ?_
            refine z_callV (As := [z_i (w7 161 24), z_i (w7 161 23)]) (rest := []) zmX9_laysWay znX9_laysWay zsX9_laysWay (show vwCl[9]? = some (RX9, TX9, 29) from rfl) zlRX9_286 ⟨Nat.le_of_ble_eq_true rfl, Nat.le_of_ble_eq_true rfl⟩ dX9_why_106 hh0.1 rfl rfl (z_ai (z_ai z_a0)) (Nat.le_of_ble_eq_true rfl) (Nat.le_of_ble_eq_true rfl) ⟨Nat.le_refl _, Nat.le_refl _⟩ (z_CIm h ?_)
            intro y12 w11 h
            show z_Sem mX9_why (sh.length, 0) 109 [(6, z_i y6), (0, z_r 161), (1, z_i x1), (2, z_i x2), (3, z_i x3), (4, z_i x4), (5, z_i x5)] [z_i y12] (sh, w11) Q
            refine z_istore (L' := [(7, z_i y12), (6, z_i y6), (0, z_r 161), (1, z_i x1), (2, z_i x2), (3, z_i x3), (4, z_i x4), (5, z_i x5)]) dX9_why_109 (by decide) rfl ?_
            refine z_aload_n 2 dX9_why_111 rfl rfl ?_
            refine z_getR (r := 174) zfRX9_52 dX9_why_112 hh0.1 rfl ?_
            refine z_iconst dX9_why_115 (by decide) ?_
            refine z_iald dX9_why_116 hh0.2.2.2.2.2.2.2.2.2.2.2.2.2.1 (by decide) ?_
            exact z_ret (v := some (z_i (w11 174 0))) dX9_why_117 ⟨rfl, Or.inl rfl⟩ rfl rfl h
          · replace h := h.2 c10
            refine z_iload 6 dX9_why_70 rfl ?_
            refine z_iconst dX9_why_72 (by decide) ?_
            refine z_icmp_ne (tgt := 84) dX9_why_73 (by decide) (fun c13 => ?_) (fun c13 => ?_)
            · replace h := h.2 c13
              refine z_aload_n 1 dX9_why_84 rfl rfl ?_
              refine z_callV (As := []) (rest := []) zmX9_isShortRing znX9_isShortRing zsX9_isShortRing (show vwCl[9]? = some (RX9, TX9, 29) from rfl) zlRX9_314 ⟨Nat.le_of_ble_eq_true rfl, Nat.le_of_ble_eq_true rfl⟩ dX9_why_85 hh0.1 rfl rfl z_a0 (Nat.le_of_ble_eq_true rfl) (Nat.le_of_ble_eq_true rfl) ⟨Nat.le_refl _, Nat.le_refl _⟩ (z_CIm h ?_)
              intro y15 w14 h
              show z_Sem mX9_why (sh.length, 0) 88 [(6, z_i y6), (0, z_r 161), (1, z_i x1), (2, z_i x2), (3, z_i x3), (4, z_i x4), (5, z_i x5)] [z_i y15] (sh, w14) Q
              suffices hJ16 : z_Sem mX9_why (sh.length, 0) 96 [] [z_i (if y15 = 0 then 2 else 1)] (sh, w14) Q by
                refine z_if_eq (tgt := 95) dX9_why_88 (by decide) (fun c17 => ?_) (fun c17 => ?_)
                · skip
                  refine z_iconst dX9_why_95 (by decide) ?_
                  refine z_sub (L' := []) [] rfl ?_
                  simp only [if_pos c17] at hJ16
                  exact hJ16
                · skip
                  refine z_iconst dX9_why_91 (by decide) ?_
                  refine z_goto (tgt := 96) dX9_why_92 (by decide) ?_
                  refine z_sub (L' := []) [] rfl ?_
                  simp only [if_neg c17] at hJ16
                  exact hJ16
              exact z_ret (v := some (z_i (if y15 = 0 then 2 else 1))) dX9_why_96 ⟨rfl, Or.inl rfl⟩ rfl rfl h
            · replace h := h.1 c13
              refine z_aload_n 1 dX9_why_76 rfl rfl ?_
              obtain ⟨q20, h⟩ := h
              refine z_callV (As := []) (rest := []) zmX9_leastRing znX9_leastRing zsX9_leastRing (show vwCl[9]? = some (RX9, TX9, 29) from rfl) zlRX9_311 ⟨Nat.le_of_ble_eq_true rfl, Nat.le_of_ble_eq_true rfl⟩ dX9_why_77 hh0.1 rfl rfl z_a0 (Nat.le_of_ble_eq_true rfl) (Nat.le_of_ble_eq_true rfl) ⟨Nat.le_refl _, Nat.le_refl _⟩ ?_
              refine t_X9_leastRing hh0 q20 ?_
              show z_Sem mX9_why (sh.length, 0) 80 [(6, z_i y6), (0, z_r 161), (1, z_i x1), (2, z_i x2), (3, z_i x3), (4, z_i x4), (5, z_i x5)] [z_i (f_X9_leastRing w7)] (sh, w7) Q
              obtain ⟨q21, h⟩ := h
              refine z_ineg dX9_why_80 q21 ?_
              refine z_goto (tgt := 96) dX9_why_81 (by decide) ?_
              exact z_ret (v := some (z_i (-(f_X9_leastRing w7)))) dX9_why_96 ⟨rfl, Or.inl rfl⟩ rfl rfl h
        · replace h := h.2 c9
          refine z_iload 6 dX9_why_52 rfl ?_
          suffices hJ22 : z_Sem mX9_why (sh.length, 0) 63 [] [z_i (if x5 = 0 then 0 else -2)] (sh, w7) Q by
            refine z_if_ne (tgt := 61) dX9_why_54 (by decide) (fun c23 => ?_) (fun c23 => ?_)
            · skip
              refine z_bipush dX9_why_61 (by decide) (by decide) ?_
              refine z_sub (L' := []) [] rfl ?_
              simp only [if_neg c23] at hJ22
              exact hJ22
            · skip
              refine z_iconst dX9_why_57 (by decide) ?_
              refine z_goto (tgt := 63) dX9_why_58 (by decide) ?_
              refine z_sub (L' := []) [] rfl ?_
              simp only [if_pos c23] at hJ22
              exact hJ22
          exact z_ret (v := some (z_i (if x5 = 0 then 0 else -2))) dX9_why_63 ⟨rfl, Or.inl rfl⟩ rfl rfl h
      · replace h := h.1 c4
        refine z_iconst dX9_why_28 (by decide) ?_
        exact z_ret (v := some (z_i (-1))) dX9_why_29 ⟨rfl, Or.inl rfl⟩ rfl rfl h
set_option maxRecDepth 100000 in
theorem t_X9_ring {sh : List z_C} {w : Nat → Int → Int} {Q : Option z_V → z_S → Prop} {x1 : Int} {x2 : Int} {x3 : Int} {x4 : Int} {x5 : Int} (hh0 : z_isMod sh 161) (h : (s_X9_areTwo w x1 x2) ∧ (((f_X9_areTwo w x1 x2) = 0 → Q (some (z_i (-1))) (sh, w)) ∧ (¬ (f_X9_areTwo w x1 x2) = 0 → (((f_X9_isN w x3 x4) = 0 → Q (some (z_i (-1))) (sh, w)) ∧ (¬ (f_X9_isN w x3 x4) = 0 → ((0 ≤ x5 → z_CI mX9_lays [z_r 161] sh w (fun y6 w5 => z_CV mX9_laysAside [z_r 161, z_i x1, z_i x2, z_i x3, z_i x4] sh w5 (fun w7 => (s_X9_leastRing w7) ∧ ((0 ≤ (f_X9_leastRing w7) → Q (some (z_i (-2))) (sh, w7)) ∧ (¬ 0 ≤ (f_X9_leastRing w7) → z_CI mX9_laysWay [z_r 161, z_i (w7 161 24), z_i (w7 161 23)] sh w7 (fun y11 w10 => (¬ y11 ≤ x5 → ((0 : Int) ≤ x5 ∧ x5 < 12) ∧ True) ∧ Q (some (z_i (if y11 ≤ x5 then -2 else w10 174 x5))) (sh, w10))))))) ∧ (¬ 0 ≤ x5 → Q (some (z_i (-1))) (sh, w)))))))) : z_Sem mX9_ring (sh.length, 0) 0 [(0, z_r 161), (1, z_i x1), (2, z_i x2), (3, z_i x3), (4, z_i x4), (5, z_i x5)] [] (sh, w) Q := by
  refine z_aload_n 0 dX9_ring_0 rfl rfl ?_
  refine z_iload_n 1 dX9_ring_1 rfl rfl ?_
  refine z_iload_n 2 dX9_ring_2 rfl rfl ?_
  obtain ⟨q1, h⟩ := h
  refine z_callV (As := [z_i x1, z_i x2]) (rest := []) zmX9_areTwo znX9_areTwo zsX9_areTwo (show vwCl[9]? = some (RX9, TX9, 29) from rfl) zlRX9_143 ⟨Nat.le_of_ble_eq_true rfl, Nat.le_of_ble_eq_true rfl⟩ dX9_ring_3 hh0.1 rfl rfl (z_ai (z_ai z_a0)) (Nat.le_of_ble_eq_true rfl) (Nat.le_of_ble_eq_true rfl) ⟨Nat.le_refl _, Nat.le_refl _⟩ ?_
  refine t_X9_areTwo hh0 q1 ?_
  show z_Sem mX9_ring (sh.length, 0) 6 [(0, z_r 161), (1, z_i x1), (2, z_i x2), (3, z_i x3), (4, z_i x4), (5, z_i x5)] [z_i (f_X9_areTwo w x1 x2)] (sh, w) Q
  refine z_if_eq (tgt := 23) dX9_ring_6 (by decide) (fun c2 => ?_) (fun c2 => ?_)
  · replace h := h.1 c2
    refine z_iconst dX9_ring_23 (by decide) ?_
    exact z_ret (v := some (z_i (-1))) dX9_ring_24 ⟨rfl, Or.inl rfl⟩ rfl rfl h
  · replace h := h.2 c2
    refine z_iload_n 3 dX9_ring_9 rfl rfl ?_
    refine z_iload 4 dX9_ring_10 rfl ?_
    refine z_callS (As := [z_i x3, z_i x4]) (rest := []) zmX9_isN ztX9_isN zlRX9_147 ⟨Nat.le_of_ble_eq_true rfl, Nat.le_of_ble_eq_true rfl⟩ dX9_ring_12 rfl rfl (z_ai (z_ai z_a0)) (Nat.le_of_ble_eq_true rfl) (Nat.le_of_ble_eq_true rfl) ⟨Nat.le_refl _, Nat.le_refl _⟩ ?_
    refine t_X9_isN  ?_
    show z_Sem mX9_ring (sh.length, 0) 15 [(0, z_r 161), (1, z_i x1), (2, z_i x2), (3, z_i x3), (4, z_i x4), (5, z_i x5)] [z_i (f_X9_isN w x3 x4)] (sh, w) Q
    refine z_if_eq (tgt := 23) dX9_ring_15 (by decide) (fun c3 => ?_) (fun c3 => ?_)
    · replace h := h.1 c3
      refine z_iconst dX9_ring_23 (by decide) ?_
      exact z_ret (v := some (z_i (-1))) dX9_ring_24 ⟨rfl, Or.inl rfl⟩ rfl rfl h
    · replace h := h.2 c3
      refine z_iload 5 dX9_ring_18 rfl ?_
      refine z_if_ge (tgt := 25) dX9_ring_20 (by decide) (fun c4 => ?_) (fun c4 => ?_)
      · replace h := h.1 c4
        refine z_aload_n 0 dX9_ring_25 rfl rfl ?_
        refine z_callV (As := []) (rest := []) zmX9_lays znX9_lays zsX9_lays (show vwCl[9]? = some (RX9, TX9, 29) from rfl) zlRX9_126 ⟨Nat.le_of_ble_eq_true rfl, Nat.le_of_ble_eq_true rfl⟩ dX9_ring_26 hh0.1 rfl rfl z_a0 (Nat.le_of_ble_eq_true rfl) (Nat.le_of_ble_eq_true rfl) ⟨Nat.le_refl _, Nat.le_refl _⟩ (z_CIm h ?_)
        intro y6 w5 h
        show z_Sem mX9_ring (sh.length, 0) 29 [(0, z_r 161), (1, z_i x1), (2, z_i x2), (3, z_i x3), (4, z_i x4), (5, z_i x5)] [z_i y6] (sh, w5) Q
        refine z_istore (L' := [(6, z_i y6), (0, z_r 161), (1, z_i x1), (2, z_i x2), (3, z_i x3), (4, z_i x4), (5, z_i x5)]) dX9_ring_29 (by decide) rfl ?_
        refine z_aload_n 1 dX9_ring_31 rfl rfl ?_
        refine z_iload_n 2 dX9_ring_32 rfl rfl ?_
        refine z_iload_n 3 dX9_ring_33 rfl rfl ?_
        refine z_iload_n 4 dX9_ring_34 rfl rfl ?_
        refine z_iload 5 dX9_ring_35 rfl ?_
        refine z_callV (As := [z_i x1, z_i x2, z_i x3, z_i x4]) (rest := []) zmX9_laysAside znX9_laysAside zsX9_laysAside (show vwCl[9]? = some (RX9, TX9, 29) from rfl) zlRX9_308 ⟨Nat.le_of_ble_eq_true rfl, Nat.le_of_ble_eq_true rfl⟩ dX9_ring_37 hh0.1 rfl rfl (z_ai (z_ai (z_ai (z_ai z_a0)))) (Nat.le_of_ble_eq_true rfl) (Nat.le_of_ble_eq_true rfl) ⟨Nat.le_refl _, Nat.le_refl _⟩ (z_CVm h ?_)
        intro w7 h
        show z_Sem mX9_ring (sh.length, 0) 40 [(6, z_i y6), (0, z_r 161), (1, z_i x1), (2, z_i x2), (3, z_i x3), (4, z_i x4), (5, z_i x5)] [] (sh, w7) Q
        refine z_aload_n 1 dX9_ring_40 rfl rfl ?_
        obtain ⟨q8, h⟩ := h
        refine z_callV (As := []) (rest := []) zmX9_leastRing znX9_leastRing zsX9_leastRing (show vwCl[9]? = some (RX9, TX9, 29) from rfl) zlRX9_311 ⟨Nat.le_of_ble_eq_true rfl, Nat.le_of_ble_eq_true rfl⟩ dX9_ring_41 hh0.1 rfl rfl z_a0 (Nat.le_of_ble_eq_true rfl) (Nat.le_of_ble_eq_true rfl) ⟨Nat.le_refl _, Nat.le_refl _⟩ ?_
        refine t_X9_leastRing hh0 q8 ?_
        show z_Sem mX9_ring (sh.length, 0) 44 [(6, z_i y6), (0, z_r 161), (1, z_i x1), (2, z_i x2), (3, z_i x3), (4, z_i x4), (5, z_i x5)] [z_i (f_X9_leastRing w7)] (sh, w7) Q
        refine z_if_ge (tgt := 74) dX9_ring_44 (by decide) (fun c9 => ?_) (fun c9 => ?_)
        · replace h := h.1 c9
          refine z_bipush dX9_ring_74 (by decide) (by decide) ?_
          exact z_ret (v := some (z_i (-2))) dX9_ring_76 ⟨rfl, Or.inl rfl⟩ rfl rfl h
        · replace h := h.2 c9
          refine z_iload 6 dX9_ring_47 rfl ?_
          refine z_aload_n 1 dX9_ring_49 rfl rfl ?_
          refine z_aload_n 1 dX9_ring_50 rfl rfl ?_
          refine z_getI (ki := 24) zfRX9_302 dX9_ring_51 hh0.1 rfl rfl ?_
          refine z_aload_n 1 dX9_ring_54 rfl rfl ?_
          refine z_getI (ki := 23) zfRX9_299 dX9_ring_55 hh0.1 rfl rfl ?_
          refine z_callV (As := [z_i (w7 161 24), z_i (w7 161 23)]) (rest := [z_i x5]) zmX9_laysWay znX9_laysWay zsX9_laysWay (show vwCl[9]? = some (RX9, TX9, 29) from rfl) zlRX9_286 ⟨Nat.le_of_ble_eq_true rfl, Nat.le_of_ble_eq_true rfl⟩ dX9_ring_58 hh0.1 rfl rfl (z_ai (z_ai z_a0)) (Nat.le_of_ble_eq_true rfl) (Nat.le_of_ble_eq_true rfl) ⟨Nat.le_refl _, Nat.le_refl _⟩ (z_CIm h ?_)
          intro y11 w10 h
          show z_Sem mX9_ring (sh.length, 0) 61 [(6, z_i y6), (0, z_r 161), (1, z_i x1), (2, z_i x2), (3, z_i x3), (4, z_i x4), (5, z_i x5)] [z_i y11, z_i x5] (sh, w10) Q
          obtain ⟨m14, h⟩ := h
          suffices hJ12 : z_Sem mX9_ring (sh.length, 0) 76 [] [z_i (if y11 ≤ x5 then -2 else w10 174 x5)] (sh, w10) Q by
            refine z_icmp_ge (tgt := 74) dX9_ring_61 (by decide) (fun c13 => ?_) (fun c13 => ?_)
            · skip
              refine z_bipush dX9_ring_74 (by decide) (by decide) ?_
              refine z_sub (L' := []) [] rfl ?_
              simp only [if_pos c13] at hJ12
              exact hJ12
            · skip
              have ho16 := m14 c13
              refine z_aload_n 1 dX9_ring_64 rfl rfl ?_
              refine z_getR (r := 174) zfRX9_52 dX9_ring_65 hh0.1 rfl ?_
              refine z_iload 6 dX9_ring_68 rfl ?_
              obtain ⟨q17, ho16⟩ := ho16
              refine z_iald dX9_ring_70 hh0.2.2.2.2.2.2.2.2.2.2.2.2.2.1 q17 ?_
              refine z_goto (tgt := 76) dX9_ring_71 (by decide) ?_
              refine z_sub (L' := []) [] rfl ?_
              simp only [if_neg c13] at hJ12
              exact hJ12
          exact z_ret (v := some (z_i (if y11 ≤ x5 then -2 else w10 174 x5))) dX9_ring_76 ⟨rfl, Or.inl rfl⟩ rfl rfl h
      · replace h := h.2 c4
        refine z_iconst dX9_ring_23 (by decide) ?_
        exact z_ret (v := some (z_i (-1))) dX9_ring_24 ⟨rfl, Or.inl rfl⟩ rfl rfl h
set_option maxRecDepth 100000 in
theorem t_X9_culprit {sh : List z_C} {w : Nat → Int → Int} {Q : Option z_V → z_S → Prop} {x1 : Int} {x2 : Int} {x3 : Int} {x4 : Int} (hh0 : z_isMod sh 161) (h : (s_X9_areTwo w x1 x2) ∧ (((f_X9_areTwo w x1 x2) = 0 → Q (some (z_i (-1))) (sh, w)) ∧ (¬ (f_X9_areTwo w x1 x2) = 0 → (((f_X9_isN w x3 x4) = 0 → Q (some (z_i (-1))) (sh, w)) ∧ (¬ (f_X9_isN w x3 x4) = 0 → z_CI mX9_lays [z_r 161] sh w (fun y5 w4 => z_CV mX9_laysAside [z_r 161, z_i x1, z_i x2, z_i x3, z_i x4] sh w4 (fun w6 => (s_X9_leastRing w6) ∧ ∀ y12 : Int, y12 = (if 0 ≤ (f_X9_leastRing w6) then 0 else 1) → z_Sem mX9_culprit (sh.length, 0) 56 [(0, z_r 161), (6, z_i (-2)), (7, z_i y12), (8, z_i 0)] [] (sh, w6) Q))))))) : z_Sem mX9_culprit (sh.length, 0) 0 [(0, z_r 161), (1, z_i x1), (2, z_i x2), (3, z_i x3), (4, z_i x4)] [] (sh, w) Q := by
  refine z_aload_n 0 dX9_culprit_0 rfl rfl ?_
  refine z_iload_n 1 dX9_culprit_1 rfl rfl ?_
  refine z_iload_n 2 dX9_culprit_2 rfl rfl ?_
  obtain ⟨q1, h⟩ := h
  refine z_callV (As := [z_i x1, z_i x2]) (rest := []) zmX9_areTwo znX9_areTwo zsX9_areTwo (show vwCl[9]? = some (RX9, TX9, 29) from rfl) zlRX9_143 ⟨Nat.le_of_ble_eq_true rfl, Nat.le_of_ble_eq_true rfl⟩ dX9_culprit_3 hh0.1 rfl rfl (z_ai (z_ai z_a0)) (Nat.le_of_ble_eq_true rfl) (Nat.le_of_ble_eq_true rfl) ⟨Nat.le_refl _, Nat.le_refl _⟩ ?_
  refine t_X9_areTwo hh0 q1 ?_
  show z_Sem mX9_culprit (sh.length, 0) 6 [(0, z_r 161), (1, z_i x1), (2, z_i x2), (3, z_i x3), (4, z_i x4)] [z_i (f_X9_areTwo w x1 x2)] (sh, w) Q
  refine z_if_eq (tgt := 18) dX9_culprit_6 (by decide) (fun c2 => ?_) (fun c2 => ?_)
  · replace h := h.1 c2
    refine z_iconst dX9_culprit_18 (by decide) ?_
    exact z_ret (v := some (z_i (-1))) dX9_culprit_19 ⟨rfl, Or.inl rfl⟩ rfl rfl h
  · replace h := h.2 c2
    refine z_iload_n 3 dX9_culprit_9 rfl rfl ?_
    refine z_iload 4 dX9_culprit_10 rfl ?_
    refine z_callS (As := [z_i x3, z_i x4]) (rest := []) zmX9_isN ztX9_isN zlRX9_147 ⟨Nat.le_of_ble_eq_true rfl, Nat.le_of_ble_eq_true rfl⟩ dX9_culprit_12 rfl rfl (z_ai (z_ai z_a0)) (Nat.le_of_ble_eq_true rfl) (Nat.le_of_ble_eq_true rfl) ⟨Nat.le_refl _, Nat.le_refl _⟩ ?_
    refine t_X9_isN  ?_
    show z_Sem mX9_culprit (sh.length, 0) 15 [(0, z_r 161), (1, z_i x1), (2, z_i x2), (3, z_i x3), (4, z_i x4)] [z_i (f_X9_isN w x3 x4)] (sh, w) Q
    refine z_if_ne (tgt := 20) dX9_culprit_15 (by decide) (fun c3 => ?_) (fun c3 => ?_)
    · replace h := h.2 c3
      refine z_aload_n 0 dX9_culprit_20 rfl rfl ?_
      refine z_callV (As := []) (rest := []) zmX9_lays znX9_lays zsX9_lays (show vwCl[9]? = some (RX9, TX9, 29) from rfl) zlRX9_126 ⟨Nat.le_of_ble_eq_true rfl, Nat.le_of_ble_eq_true rfl⟩ dX9_culprit_21 hh0.1 rfl rfl z_a0 (Nat.le_of_ble_eq_true rfl) (Nat.le_of_ble_eq_true rfl) ⟨Nat.le_refl _, Nat.le_refl _⟩ (z_CIm h ?_)
      intro y5 w4 h
      show z_Sem mX9_culprit (sh.length, 0) 24 [(0, z_r 161), (1, z_i x1), (2, z_i x2), (3, z_i x3), (4, z_i x4)] [z_i y5] (sh, w4) Q
      refine z_istore (L' := [(5, z_i y5), (0, z_r 161), (1, z_i x1), (2, z_i x2), (3, z_i x3), (4, z_i x4)]) dX9_culprit_24 (by decide) rfl ?_
      refine z_aload_n 1 dX9_culprit_26 rfl rfl ?_
      refine z_iload_n 2 dX9_culprit_27 rfl rfl ?_
      refine z_iload_n 3 dX9_culprit_28 rfl rfl ?_
      refine z_iload_n 4 dX9_culprit_29 rfl rfl ?_
      refine z_iload 5 dX9_culprit_30 rfl ?_
      refine z_callV (As := [z_i x1, z_i x2, z_i x3, z_i x4]) (rest := []) zmX9_laysAside znX9_laysAside zsX9_laysAside (show vwCl[9]? = some (RX9, TX9, 29) from rfl) zlRX9_308 ⟨Nat.le_of_ble_eq_true rfl, Nat.le_of_ble_eq_true rfl⟩ dX9_culprit_32 hh0.1 rfl rfl (z_ai (z_ai (z_ai (z_ai z_a0)))) (Nat.le_of_ble_eq_true rfl) (Nat.le_of_ble_eq_true rfl) ⟨Nat.le_refl _, Nat.le_refl _⟩ (z_CVm h ?_)
      intro w6 h
      show z_Sem mX9_culprit (sh.length, 0) 35 [(5, z_i y5), (0, z_r 161), (1, z_i x1), (2, z_i x2), (3, z_i x3), (4, z_i x4)] [] (sh, w6) Q
      refine z_bipush dX9_culprit_35 (by decide) (by decide) ?_
      refine z_istore (L' := [(6, z_i (-2)), (5, z_i y5), (0, z_r 161), (1, z_i x1), (2, z_i x2), (3, z_i x3), (4, z_i x4)]) dX9_culprit_37 (by decide) rfl ?_
      refine z_aload_n 2 dX9_culprit_39 rfl rfl ?_
      obtain ⟨q7, h⟩ := h
      refine z_callV (As := []) (rest := []) zmX9_leastRing znX9_leastRing zsX9_leastRing (show vwCl[9]? = some (RX9, TX9, 29) from rfl) zlRX9_311 ⟨Nat.le_of_ble_eq_true rfl, Nat.le_of_ble_eq_true rfl⟩ dX9_culprit_40 hh0.1 rfl rfl z_a0 (Nat.le_of_ble_eq_true rfl) (Nat.le_of_ble_eq_true rfl) ⟨Nat.le_refl _, Nat.le_refl _⟩ ?_
      refine t_X9_leastRing hh0 q7 ?_
      show z_Sem mX9_culprit (sh.length, 0) 43 [(6, z_i (-2)), (5, z_i y5), (0, z_r 161), (1, z_i x1), (2, z_i x2), (3, z_i x3), (4, z_i x4)] [z_i (f_X9_leastRing w6)] (sh, w6) Q
      suffices hJ8 : z_Sem mX9_culprit (sh.length, 0) 51 [(0, z_r 161), (6, z_i (-2))] [z_i (if 0 ≤ (f_X9_leastRing w6) then 0 else 1)] (sh, w6) Q by
        refine z_if_ge (tgt := 50) dX9_culprit_43 (by decide) (fun c9 => ?_) (fun c9 => ?_)
        · skip
          refine z_iconst dX9_culprit_50 (by decide) ?_
          refine z_sub (L' := [(0, z_r 161), (6, z_i (-2))]) [2, 0] rfl ?_
          simp only [if_pos c9] at hJ8
          exact hJ8
        · skip
          refine z_iconst dX9_culprit_46 (by decide) ?_
          refine z_goto (tgt := 51) dX9_culprit_47 (by decide) ?_
          refine z_sub (L' := [(0, z_r 161), (6, z_i (-2))]) [2, 0] rfl ?_
          simp only [if_neg c9] at hJ8
          exact hJ8
      refine z_nam (fun y12 hy12 => ?_)
      replace h := h y12 hy12
      refine z_istore (L' := [(7, z_i y12), (0, z_r 161), (6, z_i (-2))]) dX9_culprit_51 (by decide) rfl ?_
      refine z_iconst dX9_culprit_53 (by decide) ?_
      refine z_istore (L' := [(8, z_i 0), (7, z_i y12), (0, z_r 161), (6, z_i (-2))]) dX9_culprit_54 (by decide) rfl ?_
      refine z_sub (L' := [(0, z_r 161), (6, z_i (-2)), (7, z_i y12), (8, z_i 0)]) [2, 3, 1, 0] rfl ?_
      exact h
    · replace h := h.1 c3
      refine z_iconst dX9_culprit_18 (by decide) ?_
      exact z_ret (v := some (z_i (-1))) dX9_culprit_19 ⟨rfl, Or.inl rfl⟩ rfl rfl h
set_option maxRecDepth 100000 in
theorem t_X9_culprit_56 {sh : List z_C} {w : Nat → Int → Int} {Q : Option z_V → z_S → Prop} {x6 : Int} {x7 : Int} {x8 : Int} (hh0 : z_isMod sh 161) (h : (((w 163 2) ≤ x8 → Q (some (z_i x6)) (sh, w)) ∧ (¬ (w 163 2) ≤ x8 → ((x7 = 0 → Q (some (z_i x6)) (sh, w)) ∧ (¬ x7 = 0 → ((0 ≤ x6 → Q (some (z_i x6)) (sh, w)) ∧ (¬ 0 ≤ x6 → (s_X9_isOn w x8) ∧ (((f_X9_isOn w x8) = 0 → (z_R (x8 + 1)) ∧ z_Sem mX9_culprit (sh.length, 0) 56 [(0, z_r 161), (6, z_i x6), (7, z_i x7), (8, z_i (x8 + 1))] [] (sh, w) Q) ∧ (¬ (f_X9_isOn w x8) = 0 → z_CV mX9_puts [z_r 161, z_i x8, z_i 4, z_i 0] sh w (fun w7 => z_CI mX9_lays [z_r 161] sh w7 (fun y9 w8 => (s_X9_leastRing w8) ∧ ∀ y15 : Int, y15 = (if (f_X9_leastRing w8) < 0 then -2 else x8) → z_CV mX9_puts [z_r 161, z_i x8, z_i 4, z_i 1] sh w8 (fun w16 => (z_R (x8 + 1)) ∧ z_Sem mX9_culprit (sh.length, 0) 56 [(0, z_r 161), (6, z_i y15), (7, z_i x7), (8, z_i (x8 + 1))] [] (sh, w16) Q)))))))))))) : z_Sem mX9_culprit (sh.length, 0) 56 [(0, z_r 161), (6, z_i x6), (7, z_i x7), (8, z_i x8)] [] (sh, w) Q := by
  refine z_iload 3 dX9_culprit_56 rfl ?_
  refine z_aload_n 0 dX9_culprit_58 rfl rfl ?_
  refine z_getR (r := 163) zfRX9_17 dX9_culprit_59 hh0.1 rfl ?_
  refine z_iconst dX9_culprit_62 (by decide) ?_
  refine z_iald dX9_culprit_63 hh0.2.2.1 (by decide) ?_
  refine z_icmp_ge (tgt := 130) dX9_culprit_64 (by decide) (fun c1 => ?_) (fun c1 => ?_)
  · replace h := h.1 c1
    refine z_iload 1 dX9_culprit_130 rfl ?_
    exact z_ret (v := some (z_i x6)) dX9_culprit_132 ⟨rfl, Or.inl rfl⟩ rfl rfl h
  · replace h := h.2 c1
    refine z_iload 2 dX9_culprit_67 rfl ?_
    refine z_if_eq (tgt := 130) dX9_culprit_69 (by decide) (fun c2 => ?_) (fun c2 => ?_)
    · replace h := h.1 c2
      refine z_iload 1 dX9_culprit_130 rfl ?_
      exact z_ret (v := some (z_i x6)) dX9_culprit_132 ⟨rfl, Or.inl rfl⟩ rfl rfl h
    · replace h := h.2 c2
      refine z_iload 1 dX9_culprit_72 rfl ?_
      refine z_if_ge (tgt := 130) dX9_culprit_74 (by decide) (fun c3 => ?_) (fun c3 => ?_)
      · replace h := h.1 c3
        refine z_iload 1 dX9_culprit_130 rfl ?_
        exact z_ret (v := some (z_i x6)) dX9_culprit_132 ⟨rfl, Or.inl rfl⟩ rfl rfl h
      · replace h := h.2 c3
        refine z_aload_n 0 dX9_culprit_77 rfl rfl ?_
        refine z_iload 3 dX9_culprit_78 rfl ?_
        obtain ⟨q4, h⟩ := h
        refine z_callV (As := [z_i x8]) (rest := []) zmX9_isOn znX9_isOn zsX9_isOn (show vwCl[9]? = some (RX9, TX9, 29) from rfl) zlRX9_87 ⟨Nat.le_of_ble_eq_true rfl, Nat.le_of_ble_eq_true rfl⟩ dX9_culprit_80 hh0.1 rfl rfl (z_ai z_a0) (Nat.le_of_ble_eq_true rfl) (Nat.le_of_ble_eq_true rfl) ⟨Nat.le_refl _, Nat.le_refl _⟩ ?_
        refine t_X9_isOn hh0 q4 ?_
        show z_Sem mX9_culprit (sh.length, 0) 83 [(0, z_r 161), (6, z_i x6), (7, z_i x7), (8, z_i x8)] [z_i (f_X9_isOn w x8)] (sh, w) Q
        refine z_if_eq (tgt := 124) dX9_culprit_83 (by decide) (fun c5 => ?_) (fun c5 => ?_)
        · replace h := h.1 c5
          obtain ⟨q6, h⟩ := h
          refine z_iinc (L' := [(8, z_i (x8 + 1)), (0, z_r 161), (6, z_i x6), (7, z_i x7)]) 3 dX9_culprit_124 rfl (by decide) rfl q6 ?_
          refine z_goto (tgt := 56) dX9_culprit_127 (by decide) ?_
          refine z_sub (L' := [(0, z_r 161), (6, z_i x6), (7, z_i x7), (8, z_i (x8 + 1))]) [1, 2, 3, 0] rfl ?_
          exact h
        · replace h := h.2 c5
          refine z_aload_n 0 dX9_culprit_86 rfl rfl ?_
          refine z_iload 3 dX9_culprit_87 rfl ?_
          refine z_iconst dX9_culprit_89 (by decide) ?_
          refine z_iconst dX9_culprit_90 (by decide) ?_
          refine z_callV (As := [z_i x8, z_i 4, z_i 0]) (rest := []) zmX9_puts znX9_puts zsX9_puts (show vwCl[9]? = some (RX9, TX9, 29) from rfl) zlRX9_133 ⟨Nat.le_of_ble_eq_true rfl, Nat.le_of_ble_eq_true rfl⟩ dX9_culprit_91 hh0.1 rfl rfl (z_ai (z_ai (z_ai z_a0))) (Nat.le_of_ble_eq_true rfl) (Nat.le_of_ble_eq_true rfl) ⟨Nat.le_refl _, Nat.le_refl _⟩ (z_CVm h ?_)
          intro w7 h
          show z_Sem mX9_culprit (sh.length, 0) 94 [(0, z_r 161), (6, z_i x6), (7, z_i x7), (8, z_i x8)] [] (sh, w7) Q
          refine z_aload_n 0 dX9_culprit_94 rfl rfl ?_
          refine z_callV (As := []) (rest := []) zmX9_lays znX9_lays zsX9_lays (show vwCl[9]? = some (RX9, TX9, 29) from rfl) zlRX9_126 ⟨Nat.le_of_ble_eq_true rfl, Nat.le_of_ble_eq_true rfl⟩ dX9_culprit_95 hh0.1 rfl rfl z_a0 (Nat.le_of_ble_eq_true rfl) (Nat.le_of_ble_eq_true rfl) ⟨Nat.le_refl _, Nat.le_refl _⟩ (z_CIm h ?_)
          intro y9 w8 h
          show z_Sem mX9_culprit (sh.length, 0) 98 [(0, z_r 161), (6, z_i x6), (7, z_i x7), (8, z_i x8)] [z_i y9] (sh, w8) Q
          refine z_istore (L' := [(5, z_i y9), (0, z_r 161), (6, z_i x6), (7, z_i x7), (8, z_i x8)]) dX9_culprit_98 (by decide) rfl ?_
          refine z_aload_n 1 dX9_culprit_100 rfl rfl ?_
          obtain ⟨q10, h⟩ := h
          refine z_callV (As := []) (rest := []) zmX9_leastRing znX9_leastRing zsX9_leastRing (show vwCl[9]? = some (RX9, TX9, 29) from rfl) zlRX9_311 ⟨Nat.le_of_ble_eq_true rfl, Nat.le_of_ble_eq_true rfl⟩ dX9_culprit_101 hh0.1 rfl rfl z_a0 (Nat.le_of_ble_eq_true rfl) (Nat.le_of_ble_eq_true rfl) ⟨Nat.le_refl _, Nat.le_refl _⟩ ?_
          refine t_X9_leastRing hh0 q10 ?_
          show z_Sem mX9_culprit (sh.length, 0) 104 [(5, z_i y9), (0, z_r 161), (6, z_i x6), (7, z_i x7), (8, z_i x8)] [z_i (f_X9_leastRing w8)] (sh, w8) Q
          suffices hJ11 : z_Sem mX9_culprit (sh.length, 0) 114 [(0, z_r 161), (7, z_i x7), (8, z_i x8)] [z_i (if (f_X9_leastRing w8) < 0 then -2 else x8)] (sh, w8) Q by
            refine z_if_lt (tgt := 112) dX9_culprit_104 (by decide) (fun c12 => ?_) (fun c12 => ?_)
            · skip
              refine z_bipush dX9_culprit_112 (by decide) (by decide) ?_
              refine z_sub (L' := [(0, z_r 161), (7, z_i x7), (8, z_i x8)]) [1, 3, 4] rfl ?_
              simp only [if_pos c12] at hJ11
              exact hJ11
            · skip
              refine z_iload 4 dX9_culprit_107 rfl ?_
              refine z_goto (tgt := 114) dX9_culprit_109 (by decide) ?_
              refine z_sub (L' := [(0, z_r 161), (7, z_i x7), (8, z_i x8)]) [1, 3, 4] rfl ?_
              simp only [if_neg c12] at hJ11
              exact hJ11
          refine z_nam (fun y15 hy15 => ?_)
          replace h := h y15 hy15
          refine z_istore (L' := [(6, z_i y15), (0, z_r 161), (7, z_i x7), (8, z_i x8)]) dX9_culprit_114 (by decide) rfl ?_
          refine z_aload_n 1 dX9_culprit_116 rfl rfl ?_
          refine z_iload 3 dX9_culprit_117 rfl ?_
          refine z_iconst dX9_culprit_119 (by decide) ?_
          refine z_iconst dX9_culprit_120 (by decide) ?_
          refine z_callV (As := [z_i x8, z_i 4, z_i 1]) (rest := []) zmX9_puts znX9_puts zsX9_puts (show vwCl[9]? = some (RX9, TX9, 29) from rfl) zlRX9_133 ⟨Nat.le_of_ble_eq_true rfl, Nat.le_of_ble_eq_true rfl⟩ dX9_culprit_121 hh0.1 rfl rfl (z_ai (z_ai (z_ai z_a0))) (Nat.le_of_ble_eq_true rfl) (Nat.le_of_ble_eq_true rfl) ⟨Nat.le_refl _, Nat.le_refl _⟩ (z_CVm h ?_)
          intro w16 h
          show z_Sem mX9_culprit (sh.length, 0) 124 [(6, z_i y15), (0, z_r 161), (7, z_i x7), (8, z_i x8)] [] (sh, w16) Q
          obtain ⟨q17, h⟩ := h
          refine z_iinc (L' := [(8, z_i (x8 + 1)), (6, z_i y15), (0, z_r 161), (7, z_i x7)]) 3 dX9_culprit_124 rfl (by decide) rfl q17 ?_
          refine z_goto (tgt := 56) dX9_culprit_127 (by decide) ?_
          refine z_sub (L' := [(0, z_r 161), (6, z_i y15), (7, z_i x7), (8, z_i (x8 + 1))]) [2, 1, 3, 0] rfl ?_
          exact h
def f_X9_tightestOf (w : Nat → Int → Int) (x1 : Int) (x2 : Int) (x3 : Int) : Int := if x3 = 0 then (if 0 ≤ (if x3 = 0 then -(f_X9_boundOf w x2 x1) else f_X9_boundOf w x1 x2) then (if x3 = 0 then -(f_X9_boundOf w x2 x1) else f_X9_boundOf w x1 x2) else 0) else if 0 ≤ (if x3 = 0 then -(f_X9_boundOf w x2 x1) else f_X9_boundOf w x1 x2) then (if (if x3 = 0 then -(f_X9_boundOf w x2 x1) else f_X9_boundOf w x1 x2) ≤ 999 then (if x3 = 0 then -(f_X9_boundOf w x2 x1) else f_X9_boundOf w x1 x2) else 999) else -2
def s_X9_tightestOf (w : Nat → Int → Int) (x1 : Int) (x2 : Int) (x3 : Int) : Prop := (x3 = 0 → (s_X9_boundOf w x2 x1) ∧ (z_R (-(f_X9_boundOf w x2 x1))) ∧ True) ∧ (¬ x3 = 0 → (s_X9_boundOf w x1 x2) ∧ True) ∧ True
set_option maxRecDepth 100000 in
theorem t_X9_tightestOf {sh : List z_C} {w : Nat → Int → Int} {Q : Option z_V → z_S → Prop} {x1 : Int} {x2 : Int} {x3 : Int} (hh0 : z_isMod sh 161) (hs : s_X9_tightestOf w x1 x2 x3) (h : Q (some (z_i (f_X9_tightestOf w x1 x2 x3))) (sh, w)) : z_Sem mX9_tightestOf (sh.length, 0) 0 [(0, z_r 161), (1, z_i x1), (2, z_i x2), (3, z_i x3)] [] (sh, w) Q := by
  unfold f_X9_tightestOf at h
  unfold s_X9_tightestOf at hs
  refine z_iload_n 3 dX9_tightestOf_0 rfl rfl ?_
  obtain ⟨m3, m4, hs⟩ := hs
  suffices hJ1 : z_Sem mX9_tightestOf (sh.length, 0) 20 [(3, z_i x3)] [z_i (if x3 = 0 then -(f_X9_boundOf w x2 x1) else f_X9_boundOf w x1 x2)] (sh, w) Q by
    refine z_if_ne (tgt := 14) dX9_tightestOf_1 (by decide) (fun c2 => ?_) (fun c2 => ?_)
    · skip
      have ho5 := m4 c2
      refine z_aload_n 0 dX9_tightestOf_14 rfl rfl ?_
      refine z_iload_n 1 dX9_tightestOf_15 rfl rfl ?_
      refine z_iload_n 2 dX9_tightestOf_16 rfl rfl ?_
      obtain ⟨q6, ho5⟩ := ho5
      refine z_callV (As := [z_i x1, z_i x2]) (rest := []) zmX9_boundOf znX9_boundOf zsX9_boundOf (show vwCl[9]? = some (RX9, TX9, 29) from rfl) zlRX9_113 ⟨Nat.le_of_ble_eq_true rfl, Nat.le_of_ble_eq_true rfl⟩ dX9_tightestOf_17 hh0.1 rfl rfl (z_ai (z_ai z_a0)) (Nat.le_of_ble_eq_true rfl) (Nat.le_of_ble_eq_true rfl) ⟨Nat.le_refl _, Nat.le_refl _⟩ ?_
      refine t_X9_boundOf hh0 q6 ?_
      show z_Sem mX9_tightestOf (sh.length, 0) 20 [(0, z_r 161), (1, z_i x1), (2, z_i x2), (3, z_i x3)] [z_i (f_X9_boundOf w x1 x2)] (sh, w) Q
      refine z_sub (L' := [(3, z_i x3)]) [3] rfl ?_
      simp only [if_neg c2] at hJ1
      exact hJ1
    · skip
      have ho7 := m3 c2
      refine z_aload_n 0 dX9_tightestOf_4 rfl rfl ?_
      refine z_iload_n 2 dX9_tightestOf_5 rfl rfl ?_
      refine z_iload_n 1 dX9_tightestOf_6 rfl rfl ?_
      obtain ⟨q8, ho7⟩ := ho7
      refine z_callV (As := [z_i x2, z_i x1]) (rest := []) zmX9_boundOf znX9_boundOf zsX9_boundOf (show vwCl[9]? = some (RX9, TX9, 29) from rfl) zlRX9_113 ⟨Nat.le_of_ble_eq_true rfl, Nat.le_of_ble_eq_true rfl⟩ dX9_tightestOf_7 hh0.1 rfl rfl (z_ai (z_ai z_a0)) (Nat.le_of_ble_eq_true rfl) (Nat.le_of_ble_eq_true rfl) ⟨Nat.le_refl _, Nat.le_refl _⟩ ?_
      refine t_X9_boundOf hh0 q8 ?_
      show z_Sem mX9_tightestOf (sh.length, 0) 10 [(0, z_r 161), (1, z_i x1), (2, z_i x2), (3, z_i x3)] [z_i (f_X9_boundOf w x2 x1)] (sh, w) Q
      obtain ⟨q9, ho7⟩ := ho7
      refine z_ineg dX9_tightestOf_10 q9 ?_
      refine z_goto (tgt := 20) dX9_tightestOf_11 (by decide) ?_
      refine z_sub (L' := [(3, z_i x3)]) [3] rfl ?_
      simp only [if_pos c2] at hJ1
      exact hJ1
  refine z_istore (L' := [(4, z_i (if x3 = 0 then -(f_X9_boundOf w x2 x1) else f_X9_boundOf w x1 x2)), (3, z_i x3)]) dX9_tightestOf_20 (by decide) rfl ?_
  refine z_iload_n 1 dX9_tightestOf_22 rfl rfl ?_
  refine z_if_ne (tgt := 38) dX9_tightestOf_23 (by decide) (fun c10 => ?_) (fun c10 => ?_)
  · skip
    rw [if_neg c10] at h
    refine z_iload 0 dX9_tightestOf_38 rfl ?_
    suffices hJ11 : z_Sem mX9_tightestOf (sh.length, 0) 64 [] [z_i (if 0 ≤ (if x3 = 0 then -(f_X9_boundOf w x2 x1) else f_X9_boundOf w x1 x2) then (if (if x3 = 0 then -(f_X9_boundOf w x2 x1) else f_X9_boundOf w x1 x2) ≤ 999 then (if x3 = 0 then -(f_X9_boundOf w x2 x1) else f_X9_boundOf w x1 x2) else 999) else -2)] (sh, w) Q by
      refine z_if_ge (tgt := 48) dX9_tightestOf_40 (by decide) (fun c12 => ?_) (fun c12 => ?_)
      · skip
        refine z_iload 0 dX9_tightestOf_48 rfl ?_
        refine z_sipush dX9_tightestOf_50 (by decide) (by decide) ?_
        suffices hJ14 : z_Sem mX9_tightestOf (sh.length, 0) 64 [] [z_i (if (if x3 = 0 then -(f_X9_boundOf w x2 x1) else f_X9_boundOf w x1 x2) ≤ 999 then (if x3 = 0 then -(f_X9_boundOf w x2 x1) else f_X9_boundOf w x1 x2) else 999)] (sh, w) Q by
          refine z_icmp_le (tgt := 62) dX9_tightestOf_53 (by decide) (fun c15 => ?_) (fun c15 => ?_)
          · skip
            refine z_iload 0 dX9_tightestOf_62 rfl ?_
            refine z_sub (L' := []) [] rfl ?_
            simp only [if_pos c15] at hJ14
            exact hJ14
          · skip
            refine z_sipush dX9_tightestOf_56 (by decide) (by decide) ?_
            refine z_goto (tgt := 64) dX9_tightestOf_59 (by decide) ?_
            refine z_sub (L' := []) [] rfl ?_
            simp only [if_neg c15] at hJ14
            exact hJ14
        simp only [if_pos c12] at hJ11
        exact hJ11
      · skip
        refine z_bipush dX9_tightestOf_43 (by decide) (by decide) ?_
        refine z_goto (tgt := 64) dX9_tightestOf_45 (by decide) ?_
        refine z_sub (L' := []) [] rfl ?_
        simp only [if_neg c12] at hJ11
        exact hJ11
    exact z_ret (v := some (z_i (if 0 ≤ (if x3 = 0 then -(f_X9_boundOf w x2 x1) else f_X9_boundOf w x1 x2) then (if (if x3 = 0 then -(f_X9_boundOf w x2 x1) else f_X9_boundOf w x1 x2) ≤ 999 then (if x3 = 0 then -(f_X9_boundOf w x2 x1) else f_X9_boundOf w x1 x2) else 999) else -2))) dX9_tightestOf_64 ⟨rfl, Or.inl rfl⟩ rfl rfl h
  · skip
    rw [if_pos c10] at h
    refine z_iload 0 dX9_tightestOf_26 rfl ?_
    suffices hJ19 : z_Sem mX9_tightestOf (sh.length, 0) 37 [] [z_i (if 0 ≤ (if x3 = 0 then -(f_X9_boundOf w x2 x1) else f_X9_boundOf w x1 x2) then (if x3 = 0 then -(f_X9_boundOf w x2 x1) else f_X9_boundOf w x1 x2) else 0)] (sh, w) Q by
      refine z_if_ge (tgt := 35) dX9_tightestOf_28 (by decide) (fun c20 => ?_) (fun c20 => ?_)
      · skip
        refine z_iload 0 dX9_tightestOf_35 rfl ?_
        refine z_sub (L' := []) [] rfl ?_
        simp only [if_pos c20] at hJ19
        exact hJ19
      · skip
        refine z_iconst dX9_tightestOf_31 (by decide) ?_
        refine z_goto (tgt := 37) dX9_tightestOf_32 (by decide) ?_
        refine z_sub (L' := []) [] rfl ?_
        simp only [if_neg c20] at hJ19
        exact hJ19
    exact z_ret (v := some (z_i (if 0 ≤ (if x3 = 0 then -(f_X9_boundOf w x2 x1) else f_X9_boundOf w x1 x2) then (if x3 = 0 then -(f_X9_boundOf w x2 x1) else f_X9_boundOf w x1 x2) else 0))) dX9_tightestOf_37 ⟨rfl, Or.inl rfl⟩ rfl rfl h
set_option maxRecDepth 100000 in
theorem t_X9_tightest {sh : List z_C} {w : Nat → Int → Int} {Q : Option z_V → z_S → Prop} {x1 : Int} {x2 : Int} {x3 : Int} (hh0 : z_isMod sh 161) (h : (s_X9_areTwo w x1 x2) ∧ (((f_X9_areTwo w x1 x2) = 0 → Q (some (z_i (-1))) (sh, w)) ∧ (¬ (f_X9_areTwo w x1 x2) = 0 → (((f_X9_in w x3 0 1) = 0 → Q (some (z_i (-1))) (sh, w)) ∧ (¬ (f_X9_in w x3 0 1) = 0 → z_CI mX9_lays [z_r 161] sh w (fun y5 w4 => (s_X9_tightestOf w4 x1 x2 x3) ∧ Q (some (z_i (f_X9_tightestOf w4 x1 x2 x3))) (sh, w4))))))) : z_Sem mX9_tightest (sh.length, 0) 0 [(0, z_r 161), (1, z_i x1), (2, z_i x2), (3, z_i x3)] [] (sh, w) Q := by
  refine z_aload_n 0 dX9_tightest_0 rfl rfl ?_
  refine z_iload_n 1 dX9_tightest_1 rfl rfl ?_
  refine z_iload_n 2 dX9_tightest_2 rfl rfl ?_
  obtain ⟨q1, h⟩ := h
  refine z_callV (As := [z_i x1, z_i x2]) (rest := []) zmX9_areTwo znX9_areTwo zsX9_areTwo (show vwCl[9]? = some (RX9, TX9, 29) from rfl) zlRX9_143 ⟨Nat.le_of_ble_eq_true rfl, Nat.le_of_ble_eq_true rfl⟩ dX9_tightest_3 hh0.1 rfl rfl (z_ai (z_ai z_a0)) (Nat.le_of_ble_eq_true rfl) (Nat.le_of_ble_eq_true rfl) ⟨Nat.le_refl _, Nat.le_refl _⟩ ?_
  refine t_X9_areTwo hh0 q1 ?_
  show z_Sem mX9_tightest (sh.length, 0) 6 [(0, z_r 161), (1, z_i x1), (2, z_i x2), (3, z_i x3)] [z_i (f_X9_areTwo w x1 x2)] (sh, w) Q
  refine z_if_eq (tgt := 18) dX9_tightest_6 (by decide) (fun c2 => ?_) (fun c2 => ?_)
  · replace h := h.1 c2
    refine z_iconst dX9_tightest_18 (by decide) ?_
    exact z_ret (v := some (z_i (-1))) dX9_tightest_19 ⟨rfl, Or.inl rfl⟩ rfl rfl h
  · replace h := h.2 c2
    refine z_iload_n 3 dX9_tightest_9 rfl rfl ?_
    refine z_iconst dX9_tightest_10 (by decide) ?_
    refine z_iconst dX9_tightest_11 (by decide) ?_
    refine z_callS (As := [z_i x3, z_i 0, z_i 1]) (rest := []) zmX9_in ztX9_in zlRX9_65 ⟨Nat.le_of_ble_eq_true rfl, Nat.le_of_ble_eq_true rfl⟩ dX9_tightest_12 rfl rfl (z_ai (z_ai (z_ai z_a0))) (Nat.le_of_ble_eq_true rfl) (Nat.le_of_ble_eq_true rfl) ⟨Nat.le_refl _, Nat.le_refl _⟩ ?_
    refine t_X9_in  ?_
    show z_Sem mX9_tightest (sh.length, 0) 15 [(0, z_r 161), (1, z_i x1), (2, z_i x2), (3, z_i x3)] [z_i (f_X9_in w x3 0 1)] (sh, w) Q
    refine z_if_ne (tgt := 20) dX9_tightest_15 (by decide) (fun c3 => ?_) (fun c3 => ?_)
    · replace h := h.2 c3
      refine z_aload_n 0 dX9_tightest_20 rfl rfl ?_
      refine z_callV (As := []) (rest := []) zmX9_lays znX9_lays zsX9_lays (show vwCl[9]? = some (RX9, TX9, 29) from rfl) zlRX9_126 ⟨Nat.le_of_ble_eq_true rfl, Nat.le_of_ble_eq_true rfl⟩ dX9_tightest_21 hh0.1 rfl rfl z_a0 (Nat.le_of_ble_eq_true rfl) (Nat.le_of_ble_eq_true rfl) ⟨Nat.le_refl _, Nat.le_refl _⟩ (z_CIm h ?_)
      intro y5 w4 h
      show z_Sem mX9_tightest (sh.length, 0) 24 [(0, z_r 161), (1, z_i x1), (2, z_i x2), (3, z_i x3)] [z_i y5] (sh, w4) Q
      refine z_istore (L' := [(4, z_i y5), (0, z_r 161), (1, z_i x1), (2, z_i x2), (3, z_i x3)]) dX9_tightest_24 (by decide) rfl ?_
      refine z_aload_n 1 dX9_tightest_26 rfl rfl ?_
      refine z_iload_n 2 dX9_tightest_27 rfl rfl ?_
      refine z_iload_n 3 dX9_tightest_28 rfl rfl ?_
      refine z_iload_n 4 dX9_tightest_29 rfl rfl ?_
      obtain ⟨q6, h⟩ := h
      refine z_callV (As := [z_i x1, z_i x2, z_i x3]) (rest := []) zmX9_tightestOf znX9_tightestOf zsX9_tightestOf (show vwCl[9]? = some (RX9, TX9, 29) from rfl) zlRX9_317 ⟨Nat.le_of_ble_eq_true rfl, Nat.le_of_ble_eq_true rfl⟩ dX9_tightest_30 hh0.1 rfl rfl (z_ai (z_ai (z_ai z_a0))) (Nat.le_of_ble_eq_true rfl) (Nat.le_of_ble_eq_true rfl) ⟨Nat.le_refl _, Nat.le_refl _⟩ ?_
      refine t_X9_tightestOf hh0 q6 ?_
      show z_Sem mX9_tightest (sh.length, 0) 33 [(4, z_i y5), (0, z_r 161), (1, z_i x1), (2, z_i x2), (3, z_i x3)] [z_i (f_X9_tightestOf w4 x1 x2 x3)] (sh, w4) Q
      exact z_ret (v := some (z_i (f_X9_tightestOf w4 x1 x2 x3))) dX9_tightest_33 ⟨rfl, Or.inl rfl⟩ rfl rfl h
    · replace h := h.1 c3
      refine z_iconst dX9_tightest_18 (by decide) ?_
      exact z_ret (v := some (z_i (-1))) dX9_tightest_19 ⟨rfl, Or.inl rfl⟩ rfl rfl h
set_option maxRecDepth 100000 in
theorem t_X9_spare {sh : List z_C} {w : Nat → Int → Int} {Q : Option z_V → z_S → Prop} {x1 : Int} (hh0 : z_isMod sh 161) (h : (s_X9_isGap w x1) ∧ (((f_X9_isGap w x1) = 0 → Q (some (z_i (-1))) (sh, w)) ∧ (¬ (f_X9_isGap w x1) = 0 → (s_X9_isOn w x1) ∧ (((f_X9_isOn w x1) = 0 → Q (some (z_i (-3))) (sh, w)) ∧ (¬ (f_X9_isOn w x1) = 0 → z_CI mX9_lays [z_r 161] sh w (fun y6 w5 => (s_X9_of w5 x1 0) ∧ (s_X9_of w5 x1 1) ∧ (s_X9_of w5 x1 2) ∧ (s_X9_tightestOf w5 (f_X9_of w5 x1 0) (f_X9_of w5 x1 1) (f_X9_of w5 x1 2)) ∧ (s_X9_of w5 x1 3) ∧ (z_R ((f_X9_tightestOf w5 (f_X9_of w5 x1 0) (f_X9_of w5 x1 1) (f_X9_of w5 x1 2)) - (f_X9_of w5 x1 3))) ∧ ∀ y13 : Int, y13 = ((f_X9_tightestOf w5 (f_X9_of w5 x1 0) (f_X9_of w5 x1 1) (f_X9_of w5 x1 2)) - (f_X9_of w5 x1 3)) → (s_X9_of w5 x1 2) ∧ ((f_X9_of w5 x1 2) = 0 → (z_R (-y13)) ∧ True) ∧ Q (some (z_i (if (f_X9_of w5 x1 2) = 0 then -y13 else y13))) (sh, w5))))))) : z_Sem mX9_spare (sh.length, 0) 0 [(0, z_r 161), (1, z_i x1)] [] (sh, w) Q := by
  refine z_aload_n 0 dX9_spare_0 rfl rfl ?_
  refine z_iload_n 1 dX9_spare_1 rfl rfl ?_
  obtain ⟨q1, h⟩ := h
  refine z_callV (As := [z_i x1]) (rest := []) zmX9_isGap znX9_isGap zsX9_isGap (show vwCl[9]? = some (RX9, TX9, 29) from rfl) zlRX9_154 ⟨Nat.le_of_ble_eq_true rfl, Nat.le_of_ble_eq_true rfl⟩ dX9_spare_2 hh0.1 rfl rfl (z_ai z_a0) (Nat.le_of_ble_eq_true rfl) (Nat.le_of_ble_eq_true rfl) ⟨Nat.le_refl _, Nat.le_refl _⟩ ?_
  refine t_X9_isGap hh0 q1 ?_
  show z_Sem mX9_spare (sh.length, 0) 5 [(0, z_r 161), (1, z_i x1)] [z_i (f_X9_isGap w x1)] (sh, w) Q
  refine z_if_ne (tgt := 10) dX9_spare_5 (by decide) (fun c2 => ?_) (fun c2 => ?_)
  · replace h := h.2 c2
    refine z_aload_n 0 dX9_spare_10 rfl rfl ?_
    refine z_iload_n 1 dX9_spare_11 rfl rfl ?_
    obtain ⟨q3, h⟩ := h
    refine z_callV (As := [z_i x1]) (rest := []) zmX9_isOn znX9_isOn zsX9_isOn (show vwCl[9]? = some (RX9, TX9, 29) from rfl) zlRX9_87 ⟨Nat.le_of_ble_eq_true rfl, Nat.le_of_ble_eq_true rfl⟩ dX9_spare_12 hh0.1 rfl rfl (z_ai z_a0) (Nat.le_of_ble_eq_true rfl) (Nat.le_of_ble_eq_true rfl) ⟨Nat.le_refl _, Nat.le_refl _⟩ ?_
    refine t_X9_isOn hh0 q3 ?_
    show z_Sem mX9_spare (sh.length, 0) 15 [(0, z_r 161), (1, z_i x1)] [z_i (f_X9_isOn w x1)] (sh, w) Q
    refine z_if_ne (tgt := 21) dX9_spare_15 (by decide) (fun c4 => ?_) (fun c4 => ?_)
    · replace h := h.2 c4
      refine z_aload_n 0 dX9_spare_21 rfl rfl ?_
      refine z_callV (As := []) (rest := []) zmX9_lays znX9_lays zsX9_lays (show vwCl[9]? = some (RX9, TX9, 29) from rfl) zlRX9_126 ⟨Nat.le_of_ble_eq_true rfl, Nat.le_of_ble_eq_true rfl⟩ dX9_spare_22 hh0.1 rfl rfl z_a0 (Nat.le_of_ble_eq_true rfl) (Nat.le_of_ble_eq_true rfl) ⟨Nat.le_refl _, Nat.le_refl _⟩ (z_CIm h ?_)
      intro y6 w5 h
      show z_Sem mX9_spare (sh.length, 0) 25 [(0, z_r 161), (1, z_i x1)] [z_i y6] (sh, w5) Q
      refine z_istore_n (L' := [(2, z_i y6), (0, z_r 161), (1, z_i x1)]) dX9_spare_25 rfl (by decide) rfl ?_
      refine z_aload_n 1 dX9_spare_26 rfl rfl ?_
      refine z_aload_n 1 dX9_spare_27 rfl rfl ?_
      refine z_iload_n 2 dX9_spare_28 rfl rfl ?_
      refine z_iconst dX9_spare_29 (by decide) ?_
      obtain ⟨q7, h⟩ := h
      refine z_callV (As := [z_i x1, z_i 0]) (rest := [z_r 161]) zmX9_of znX9_of zsX9_of (show vwCl[9]? = some (RX9, TX9, 29) from rfl) zlRX9_76 ⟨Nat.le_of_ble_eq_true rfl, Nat.le_of_ble_eq_true rfl⟩ dX9_spare_30 hh0.1 rfl rfl (z_ai (z_ai z_a0)) (Nat.le_of_ble_eq_true rfl) (Nat.le_of_ble_eq_true rfl) ⟨Nat.le_refl _, Nat.le_refl _⟩ ?_
      refine t_X9_of hh0 q7 ?_
      show z_Sem mX9_spare (sh.length, 0) 33 [(2, z_i y6), (0, z_r 161), (1, z_i x1)] [z_i (f_X9_of w5 x1 0), z_r 161] (sh, w5) Q
      refine z_aload_n 1 dX9_spare_33 rfl rfl ?_
      refine z_iload_n 2 dX9_spare_34 rfl rfl ?_
      refine z_iconst dX9_spare_35 (by decide) ?_
      obtain ⟨q8, h⟩ := h
      refine z_callV (As := [z_i x1, z_i 1]) (rest := [z_i (f_X9_of w5 x1 0), z_r 161]) zmX9_of znX9_of zsX9_of (show vwCl[9]? = some (RX9, TX9, 29) from rfl) zlRX9_76 ⟨Nat.le_of_ble_eq_true rfl, Nat.le_of_ble_eq_true rfl⟩ dX9_spare_36 hh0.1 rfl rfl (z_ai (z_ai z_a0)) (Nat.le_of_ble_eq_true rfl) (Nat.le_of_ble_eq_true rfl) ⟨Nat.le_refl _, Nat.le_refl _⟩ ?_
      refine t_X9_of hh0 q8 ?_
      show z_Sem mX9_spare (sh.length, 0) 39 [(2, z_i y6), (0, z_r 161), (1, z_i x1)] [z_i (f_X9_of w5 x1 1), z_i (f_X9_of w5 x1 0), z_r 161] (sh, w5) Q
      refine z_aload_n 1 dX9_spare_39 rfl rfl ?_
      refine z_iload_n 2 dX9_spare_40 rfl rfl ?_
      refine z_iconst dX9_spare_41 (by decide) ?_
      obtain ⟨q9, h⟩ := h
      refine z_callV (As := [z_i x1, z_i 2]) (rest := [z_i (f_X9_of w5 x1 1), z_i (f_X9_of w5 x1 0), z_r 161]) zmX9_of znX9_of zsX9_of (show vwCl[9]? = some (RX9, TX9, 29) from rfl) zlRX9_76 ⟨Nat.le_of_ble_eq_true rfl, Nat.le_of_ble_eq_true rfl⟩ dX9_spare_42 hh0.1 rfl rfl (z_ai (z_ai z_a0)) (Nat.le_of_ble_eq_true rfl) (Nat.le_of_ble_eq_true rfl) ⟨Nat.le_refl _, Nat.le_refl _⟩ ?_
      refine t_X9_of hh0 q9 ?_
      show z_Sem mX9_spare (sh.length, 0) 45 [(2, z_i y6), (0, z_r 161), (1, z_i x1)] [z_i (f_X9_of w5 x1 2), z_i (f_X9_of w5 x1 1), z_i (f_X9_of w5 x1 0), z_r 161] (sh, w5) Q
      obtain ⟨q10, h⟩ := h
      refine z_callV (As := [z_i (f_X9_of w5 x1 0), z_i (f_X9_of w5 x1 1), z_i (f_X9_of w5 x1 2)]) (rest := []) zmX9_tightestOf znX9_tightestOf zsX9_tightestOf (show vwCl[9]? = some (RX9, TX9, 29) from rfl) zlRX9_317 ⟨Nat.le_of_ble_eq_true rfl, Nat.le_of_ble_eq_true rfl⟩ dX9_spare_45 hh0.1 rfl rfl (z_ai (z_ai (z_ai z_a0))) (Nat.le_of_ble_eq_true rfl) (Nat.le_of_ble_eq_true rfl) ⟨Nat.le_refl _, Nat.le_refl _⟩ ?_
      refine t_X9_tightestOf hh0 q10 ?_
      show z_Sem mX9_spare (sh.length, 0) 48 [(2, z_i y6), (0, z_r 161), (1, z_i x1)] [z_i (f_X9_tightestOf w5 (f_X9_of w5 x1 0) (f_X9_of w5 x1 1) (f_X9_of w5 x1 2))] (sh, w5) Q
      refine z_aload_n 1 dX9_spare_48 rfl rfl ?_
      refine z_iload_n 2 dX9_spare_49 rfl rfl ?_
      refine z_iconst dX9_spare_50 (by decide) ?_
      obtain ⟨q11, h⟩ := h
      refine z_callV (As := [z_i x1, z_i 3]) (rest := [z_i (f_X9_tightestOf w5 (f_X9_of w5 x1 0) (f_X9_of w5 x1 1) (f_X9_of w5 x1 2))]) zmX9_of znX9_of zsX9_of (show vwCl[9]? = some (RX9, TX9, 29) from rfl) zlRX9_76 ⟨Nat.le_of_ble_eq_true rfl, Nat.le_of_ble_eq_true rfl⟩ dX9_spare_51 hh0.1 rfl rfl (z_ai (z_ai z_a0)) (Nat.le_of_ble_eq_true rfl) (Nat.le_of_ble_eq_true rfl) ⟨Nat.le_refl _, Nat.le_refl _⟩ ?_
      refine t_X9_of hh0 q11 ?_
      show z_Sem mX9_spare (sh.length, 0) 54 [(2, z_i y6), (0, z_r 161), (1, z_i x1)] [z_i (f_X9_of w5 x1 3), z_i (f_X9_tightestOf w5 (f_X9_of w5 x1 0) (f_X9_of w5 x1 1) (f_X9_of w5 x1 2))] (sh, w5) Q
      obtain ⟨q12, h⟩ := h
      refine z_isub dX9_spare_54 q12 ?_
      refine z_nam (fun y13 hy13 => ?_)
      replace h := h y13 hy13
      refine z_istore_n (L' := [(3, z_i y13), (2, z_i y6), (0, z_r 161), (1, z_i x1)]) dX9_spare_55 rfl (by decide) rfl ?_
      refine z_aload_n 2 dX9_spare_56 rfl rfl ?_
      refine z_iload_n 3 dX9_spare_57 rfl rfl ?_
      refine z_iconst dX9_spare_58 (by decide) ?_
      obtain ⟨q14, h⟩ := h
      refine z_callV (As := [z_i x1, z_i 2]) (rest := []) zmX9_of znX9_of zsX9_of (show vwCl[9]? = some (RX9, TX9, 29) from rfl) zlRX9_76 ⟨Nat.le_of_ble_eq_true rfl, Nat.le_of_ble_eq_true rfl⟩ dX9_spare_59 hh0.1 rfl rfl (z_ai (z_ai z_a0)) (Nat.le_of_ble_eq_true rfl) (Nat.le_of_ble_eq_true rfl) ⟨Nat.le_refl _, Nat.le_refl _⟩ ?_
      refine t_X9_of hh0 q14 ?_
      show z_Sem mX9_spare (sh.length, 0) 62 [(3, z_i y13), (2, z_i y6), (0, z_r 161), (1, z_i x1)] [z_i (f_X9_of w5 x1 2)] (sh, w5) Q
      obtain ⟨m17, h⟩ := h
      suffices hJ15 : z_Sem mX9_spare (sh.length, 0) 71 [] [z_i (if (f_X9_of w5 x1 2) = 0 then -y13 else y13)] (sh, w5) Q by
        refine z_if_ne (tgt := 70) dX9_spare_62 (by decide) (fun c16 => ?_) (fun c16 => ?_)
        · skip
          refine z_iload_n 0 dX9_spare_70 rfl rfl ?_
          refine z_sub (L' := []) [] rfl ?_
          simp only [if_neg c16] at hJ15
          exact hJ15
        · skip
          have ho19 := m17 c16
          refine z_iload_n 0 dX9_spare_65 rfl rfl ?_
          obtain ⟨q20, ho19⟩ := ho19
          refine z_ineg dX9_spare_66 q20 ?_
          refine z_goto (tgt := 71) dX9_spare_67 (by decide) ?_
          refine z_sub (L' := []) [] rfl ?_
          simp only [if_pos c16] at hJ15
          exact hJ15
      exact z_ret (v := some (z_i (if (f_X9_of w5 x1 2) = 0 then -y13 else y13))) dX9_spare_71 ⟨rfl, Or.inl rfl⟩ rfl rfl h
    · replace h := h.1 c4
      refine z_bipush dX9_spare_18 (by decide) (by decide) ?_
      exact z_ret (v := some (z_i (-3))) dX9_spare_20 ⟨rfl, Or.inl rfl⟩ rfl rfl h
  · replace h := h.1 c2
    refine z_iconst dX9_spare_8 (by decide) ?_
    exact z_ret (v := some (z_i (-1))) dX9_spare_9 ⟨rfl, Or.inl rfl⟩ rfl rfl h
set_option maxRecDepth 100000 in
theorem t_X9_needless {sh : List z_C} {w : Nat → Int → Int} {Q : Option z_V → z_S → Prop}  (hh0 : z_isMod sh 161) (h : z_CI mX9_firstNeedless [z_r 161] sh w (fun y2 w1 => Q (some (z_i y2)) (sh, w1))) : z_Sem mX9_needless (sh.length, 0) 0 [(0, z_r 161)] [] (sh, w) Q := by
  refine z_aload_n 0 dX9_needless_0 rfl rfl ?_
  refine z_callV (As := []) (rest := []) zmX9_firstNeedless znX9_firstNeedless zsX9_firstNeedless (show vwCl[9]? = some (RX9, TX9, 29) from rfl) zlRX9_175 ⟨Nat.le_of_ble_eq_true rfl, Nat.le_of_ble_eq_true rfl⟩ dX9_needless_1 hh0.1 rfl rfl z_a0 (Nat.le_of_ble_eq_true rfl) (Nat.le_of_ble_eq_true rfl) ⟨Nat.le_refl _, Nat.le_refl _⟩ (z_CIm h ?_)
  intro y2 w1 h
  show z_Sem mX9_needless (sh.length, 0) 4 [(0, z_r 161)] [z_i y2] (sh, w1) Q
  exact z_ret (v := some (z_i y2)) dX9_needless_4 ⟨rfl, Or.inl rfl⟩ rfl rfl h
set_option maxRecDepth 100000 in
theorem t_X9_needs {sh : List z_C} {w : Nat → Int → Int} {Q : Option z_V → z_S → Prop} {x1 : Int} (hh0 : z_isMod sh 161) (h : (s_X9_isEvent w x1) ∧ (((f_X9_isEvent w x1) = 0 → Q (some (z_i (-1))) (sh, w)) ∧ (¬ (f_X9_isEvent w x1) = 0 → z_CI mX9_neededGaps [z_r 161, z_i x1] sh w (fun y4 w3 => Q (some (z_i y4)) (sh, w3))))) : z_Sem mX9_needs (sh.length, 0) 0 [(0, z_r 161), (1, z_i x1)] [] (sh, w) Q := by
  refine z_aload_n 0 dX9_needs_0 rfl rfl ?_
  refine z_iload_n 1 dX9_needs_1 rfl rfl ?_
  obtain ⟨q1, h⟩ := h
  refine z_callV (As := [z_i x1]) (rest := []) zmX9_isEvent znX9_isEvent zsX9_isEvent (show vwCl[9]? = some (RX9, TX9, 29) from rfl) zlRX9_80 ⟨Nat.le_of_ble_eq_true rfl, Nat.le_of_ble_eq_true rfl⟩ dX9_needs_2 hh0.1 rfl rfl (z_ai z_a0) (Nat.le_of_ble_eq_true rfl) (Nat.le_of_ble_eq_true rfl) ⟨Nat.le_refl _, Nat.le_refl _⟩ ?_
  refine t_X9_isEvent hh0 q1 ?_
  show z_Sem mX9_needs (sh.length, 0) 5 [(0, z_r 161), (1, z_i x1)] [z_i (f_X9_isEvent w x1)] (sh, w) Q
  refine z_if_eq (tgt := 16) dX9_needs_5 (by decide) (fun c2 => ?_) (fun c2 => ?_)
  · replace h := h.1 c2
    refine z_iconst dX9_needs_16 (by decide) ?_
    exact z_ret (v := some (z_i (-1))) dX9_needs_17 ⟨rfl, Or.inl rfl⟩ rfl rfl h
  · replace h := h.2 c2
    refine z_aload_n 0 dX9_needs_8 rfl rfl ?_
    refine z_iload_n 1 dX9_needs_9 rfl rfl ?_
    refine z_callV (As := [z_i x1]) (rest := []) zmX9_neededGaps znX9_neededGaps zsX9_neededGaps (show vwCl[9]? = some (RX9, TX9, 29) from rfl) zlRX9_260 ⟨Nat.le_of_ble_eq_true rfl, Nat.le_of_ble_eq_true rfl⟩ dX9_needs_10 hh0.1 rfl rfl (z_ai z_a0) (Nat.le_of_ble_eq_true rfl) (Nat.le_of_ble_eq_true rfl) ⟨Nat.le_refl _, Nat.le_refl _⟩ (z_CIm h ?_)
    intro y4 w3 h
    show z_Sem mX9_needs (sh.length, 0) 13 [(0, z_r 161), (1, z_i x1)] [z_i y4] (sh, w3) Q
    refine z_goto (tgt := 17) dX9_needs_13 (by decide) ?_
    exact z_ret (v := some (z_i y4)) dX9_needs_17 ⟨rfl, Or.inl rfl⟩ rfl rfl h
set_option maxRecDepth 100000 in
theorem t_X9_keepsBounds {sh : List z_C} {w : Nat → Int → Int} {Q : Option z_V → z_S → Prop}  (hh0 : z_isMod sh 161) (h : z_CI mX9_lays [z_r 161] sh w (fun y2 w1 => z_Sem mX9_keepsBounds (sh.length, 0) 7 [(0, z_r 161), (2, z_i 0)] [] (sh, w1) Q)) : z_Sem mX9_keepsBounds (sh.length, 0) 0 [(0, z_r 161)] [] (sh, w) Q := by
  refine z_aload_n 0 dX9_keepsBounds_0 rfl rfl ?_
  refine z_callV (As := []) (rest := []) zmX9_lays znX9_lays zsX9_lays (show vwCl[9]? = some (RX9, TX9, 29) from rfl) zlRX9_126 ⟨Nat.le_of_ble_eq_true rfl, Nat.le_of_ble_eq_true rfl⟩ dX9_keepsBounds_1 hh0.1 rfl rfl z_a0 (Nat.le_of_ble_eq_true rfl) (Nat.le_of_ble_eq_true rfl) ⟨Nat.le_refl _, Nat.le_refl _⟩ (z_CIm h ?_)
  intro y2 w1 h
  show z_Sem mX9_keepsBounds (sh.length, 0) 4 [(0, z_r 161)] [z_i y2] (sh, w1) Q
  refine z_istore_n (L' := [(1, z_i y2), (0, z_r 161)]) dX9_keepsBounds_4 rfl (by decide) rfl ?_
  refine z_iconst dX9_keepsBounds_5 (by decide) ?_
  refine z_istore_n (L' := [(2, z_i 0), (1, z_i y2), (0, z_r 161)]) dX9_keepsBounds_6 rfl (by decide) rfl ?_
  refine z_sub (L' := [(0, z_r 161), (2, z_i 0)]) [2, 0] rfl ?_
  exact h
set_option maxRecDepth 100000 in
theorem t_X9_keepsBounds_7 {sh : List z_C} {w : Nat → Int → Int} {Q : Option z_V → z_S → Prop} {x2 : Int} (hh0 : z_isMod sh 161) (h : ((100 ≤ x2 → Q none (sh, w)) ∧ (¬ 100 ≤ x2 → ((0 : Int) ≤ x2 ∧ x2 < 100) ∧ ((0 : Int) ≤ x2 ∧ x2 < 100) ∧ ∀ w3 : Nat → Int → Int, w3 = z_W w 175 x2 (w 172 x2) → (z_R (x2 + 1)) ∧ z_Sem mX9_keepsBounds (sh.length, 0) 7 [(0, z_r 161), (2, z_i (x2 + 1))] [] (sh, w3) Q))) : z_Sem mX9_keepsBounds (sh.length, 0) 7 [(0, z_r 161), (2, z_i x2)] [] (sh, w) Q := by
  refine z_iload_n 1 dX9_keepsBounds_7 rfl rfl ?_
  refine z_bipush dX9_keepsBounds_8 (by decide) (by decide) ?_
  refine z_icmp_ge (tgt := 31) dX9_keepsBounds_10 (by decide) (fun c1 => ?_) (fun c1 => ?_)
  · replace h := h.1 c1
    exact z_ret (v := none) dX9_keepsBounds_31 ⟨rfl, rfl⟩ rfl rfl h
  · replace h := h.2 c1
    refine z_aload_n 0 dX9_keepsBounds_13 rfl rfl ?_
    refine z_getR (r := 175) zfRX9_55 dX9_keepsBounds_14 hh0.1 rfl ?_
    refine z_iload_n 1 dX9_keepsBounds_17 rfl rfl ?_
    refine z_aload_n 0 dX9_keepsBounds_18 rfl rfl ?_
    refine z_getR (r := 172) zfRX9_46 dX9_keepsBounds_19 hh0.1 rfl ?_
    refine z_iload_n 1 dX9_keepsBounds_22 rfl rfl ?_
    obtain ⟨q2, h⟩ := h
    refine z_iald dX9_keepsBounds_23 hh0.2.2.2.2.2.2.2.2.2.2.2.1 q2 ?_
    obtain ⟨q4, h⟩ := h
    refine z_iast dX9_keepsBounds_24 hh0.2.2.2.2.2.2.2.2.2.2.2.2.2.2.1 q4 ?_
    refine z_genw (fun w3 hw3 => ?_)
    replace h := h w3 hw3
    obtain ⟨q5, h⟩ := h
    refine z_iinc (L' := [(2, z_i (x2 + 1)), (0, z_r 161)]) 1 dX9_keepsBounds_25 rfl (by decide) rfl q5 ?_
    refine z_goto (tgt := 7) dX9_keepsBounds_28 (by decide) ?_
    refine z_sub (L' := [(0, z_r 161), (2, z_i (x2 + 1))]) [1, 0] rfl ?_
    exact h
set_option maxRecDepth 100000 in
theorem t_X9_otherBounds {sh : List z_C} {w : Nat → Int → Int} {Q : Option z_V → z_S → Prop}  (hh0 : z_isMod sh 161) (h : z_Sem mX9_otherBounds (sh.length, 0) 4 [(0, z_r 161), (1, z_i 0), (2, z_i 0)] [] (sh, w) Q) : z_Sem mX9_otherBounds (sh.length, 0) 0 [(0, z_r 161)] [] (sh, w) Q := by
  refine z_iconst dX9_otherBounds_0 (by decide) ?_
  refine z_istore_n (L' := [(1, z_i 0), (0, z_r 161)]) dX9_otherBounds_1 rfl (by decide) rfl ?_
  refine z_iconst dX9_otherBounds_2 (by decide) ?_
  refine z_istore_n (L' := [(2, z_i 0), (1, z_i 0), (0, z_r 161)]) dX9_otherBounds_3 rfl (by decide) rfl ?_
  refine z_sub (L' := [(0, z_r 161), (1, z_i 0), (2, z_i 0)]) [2, 1, 0] rfl ?_
  exact h
set_option maxRecDepth 100000 in
theorem t_X9_otherBounds_4 {sh : List z_C} {w : Nat → Int → Int} {Q : Option z_V → z_S → Prop} {x1 : Int} {x2 : Int} (hh0 : z_isMod sh 161) (h : (((w 163 1) ≤ x2 → Q (some (z_i x1)) (sh, w)) ∧ (¬ (w 163 1) ≤ x2 → z_Sem mX9_otherBounds (sh.length, 0) 16 [(0, z_r 161), (1, z_i x1), (2, z_i x2), (3, z_i 0)] [] (sh, w) Q))) : z_Sem mX9_otherBounds (sh.length, 0) 4 [(0, z_r 161), (1, z_i x1), (2, z_i x2)] [] (sh, w) Q := by
  refine z_iload_n 2 dX9_otherBounds_4 rfl rfl ?_
  refine z_aload_n 0 dX9_otherBounds_5 rfl rfl ?_
  refine z_getR (r := 163) zfRX9_17 dX9_otherBounds_6 hh0.1 rfl ?_
  refine z_iconst dX9_otherBounds_9 (by decide) ?_
  refine z_iald dX9_otherBounds_10 hh0.2.2.1 (by decide) ?_
  refine z_icmp_ge (tgt := 74) dX9_otherBounds_11 (by decide) (fun c1 => ?_) (fun c1 => ?_)
  · replace h := h.1 c1
    refine z_iload_n 1 dX9_otherBounds_74 rfl rfl ?_
    exact z_ret (v := some (z_i x1)) dX9_otherBounds_75 ⟨rfl, Or.inl rfl⟩ rfl rfl h
  · replace h := h.2 c1
    refine z_iconst dX9_otherBounds_14 (by decide) ?_
    refine z_istore_n (L' := [(3, z_i 0), (0, z_r 161), (1, z_i x1), (2, z_i x2)]) dX9_otherBounds_15 rfl (by decide) rfl ?_
    refine z_sub (L' := [(0, z_r 161), (1, z_i x1), (2, z_i x2), (3, z_i 0)]) [1, 2, 3, 0] rfl ?_
    exact h
set_option maxRecDepth 100000 in
theorem t_X9_otherBounds_16 {sh : List z_C} {w : Nat → Int → Int} {Q : Option z_V → z_S → Prop} {x1 : Int} {x2 : Int} {x3 : Int} (hh0 : z_isMod sh 161) (h : (((w 163 1) ≤ x3 → (z_R (x2 + 1)) ∧ z_Sem mX9_otherBounds (sh.length, 0) 4 [(0, z_r 161), (1, z_i x1), (2, z_i (x2 + 1))] [] (sh, w) Q) ∧ (¬ (w 163 1) ≤ x3 → (¬ x2 = x3 → (s_X9_pair w x2 x3) ∧ ((0 : Int) ≤ (f_X9_pair w x2 x3) ∧ (f_X9_pair w x2 x3) < 100) ∧ (s_X9_pair w x2 x3) ∧ ((0 : Int) ≤ (f_X9_pair w x2 x3) ∧ (f_X9_pair w x2 x3) < 100) ∧ True) ∧ (z_R (x1 + (if x2 = x3 then 0 else if (w 172 (f_X9_pair w x2 x3)) = (w 175 (f_X9_pair w x2 x3)) then 0 else 1))) ∧ ∀ y17 : Int, y17 = (x1 + (if x2 = x3 then 0 else if (w 172 (f_X9_pair w x2 x3)) = (w 175 (f_X9_pair w x2 x3)) then 0 else 1)) → (z_R (x3 + 1)) ∧ z_Sem mX9_otherBounds (sh.length, 0) 16 [(0, z_r 161), (1, z_i y17), (2, z_i x2), (3, z_i (x3 + 1))] [] (sh, w) Q))) : z_Sem mX9_otherBounds (sh.length, 0) 16 [(0, z_r 161), (1, z_i x1), (2, z_i x2), (3, z_i x3)] [] (sh, w) Q := by
  refine z_iload_n 3 dX9_otherBounds_16 rfl rfl ?_
  refine z_aload_n 0 dX9_otherBounds_17 rfl rfl ?_
  refine z_getR (r := 163) zfRX9_17 dX9_otherBounds_18 hh0.1 rfl ?_
  refine z_iconst dX9_otherBounds_21 (by decide) ?_
  refine z_iald dX9_otherBounds_22 hh0.2.2.1 (by decide) ?_
  refine z_icmp_ge (tgt := 68) dX9_otherBounds_23 (by decide) (fun c1 => ?_) (fun c1 => ?_)
  · replace h := h.1 c1
    obtain ⟨q2, h⟩ := h
    refine z_iinc (L' := [(2, z_i (x2 + 1)), (0, z_r 161), (1, z_i x1), (3, z_i x3)]) 2 dX9_otherBounds_68 rfl (by decide) rfl q2 ?_
    refine z_goto (tgt := 4) dX9_otherBounds_71 (by decide) ?_
    refine z_sub (L' := [(0, z_r 161), (1, z_i x1), (2, z_i (x2 + 1))]) [1, 2, 0] rfl ?_
    exact h
  · replace h := h.2 c1
    refine z_iload_n 1 dX9_otherBounds_26 rfl rfl ?_
    refine z_iload_n 2 dX9_otherBounds_27 rfl rfl ?_
    refine z_iload_n 3 dX9_otherBounds_28 rfl rfl ?_
    obtain ⟨m5, h⟩ := h
    suffices hJ3 : z_Sem mX9_otherBounds (sh.length, 0) 60 [(0, z_r 161), (2, z_i x2), (3, z_i x3)] [z_i (if x2 = x3 then 0 else if (w 172 (f_X9_pair w x2 x3)) = (w 175 (f_X9_pair w x2 x3)) then 0 else 1), z_i x1] (sh, w) Q by
      refine z_icmp_eq (tgt := 59) dX9_otherBounds_29 (by decide) (fun c4 => ?_) (fun c4 => ?_)
      · skip
        refine z_iconst dX9_otherBounds_59 (by decide) ?_
        refine z_sub (L' := [(0, z_r 161), (2, z_i x2), (3, z_i x3)]) [0, 2, 3] rfl ?_
        simp only [if_pos c4] at hJ3
        exact hJ3
      · skip
        have ho7 := m5 c4
        refine z_aload_n 0 dX9_otherBounds_32 rfl rfl ?_
        refine z_getR (r := 172) zfRX9_46 dX9_otherBounds_33 hh0.1 rfl ?_
        refine z_iload_n 2 dX9_otherBounds_36 rfl rfl ?_
        refine z_iload_n 3 dX9_otherBounds_37 rfl rfl ?_
        obtain ⟨q8, ho7⟩ := ho7
        refine z_callS (As := [z_i x2, z_i x3]) (rest := [z_r 172, z_i x1]) zmX9_pair ztX9_pair zlRX9_106 ⟨Nat.le_of_ble_eq_true rfl, Nat.le_of_ble_eq_true rfl⟩ dX9_otherBounds_38 rfl rfl (z_ai (z_ai z_a0)) (Nat.le_of_ble_eq_true rfl) (Nat.le_of_ble_eq_true rfl) ⟨Nat.le_refl _, Nat.le_refl _⟩ ?_
        refine t_X9_pair  q8 ?_
        show z_Sem mX9_otherBounds (sh.length, 0) 41 [(0, z_r 161), (1, z_i x1), (2, z_i x2), (3, z_i x3)] [z_i (f_X9_pair w x2 x3), z_r 172, z_i x1] (sh, w) Q
        obtain ⟨q9, ho7⟩ := ho7
        refine z_iald dX9_otherBounds_41 hh0.2.2.2.2.2.2.2.2.2.2.2.1 q9 ?_
        refine z_aload_n 0 dX9_otherBounds_42 rfl rfl ?_
        refine z_getR (r := 175) zfRX9_55 dX9_otherBounds_43 hh0.1 rfl ?_
        refine z_iload_n 2 dX9_otherBounds_46 rfl rfl ?_
        refine z_iload_n 3 dX9_otherBounds_47 rfl rfl ?_
        obtain ⟨q10, ho7⟩ := ho7
        refine z_callS (As := [z_i x2, z_i x3]) (rest := [z_r 175, z_i (w 172 (f_X9_pair w x2 x3)), z_i x1]) zmX9_pair ztX9_pair zlRX9_106 ⟨Nat.le_of_ble_eq_true rfl, Nat.le_of_ble_eq_true rfl⟩ dX9_otherBounds_48 rfl rfl (z_ai (z_ai z_a0)) (Nat.le_of_ble_eq_true rfl) (Nat.le_of_ble_eq_true rfl) ⟨Nat.le_refl _, Nat.le_refl _⟩ ?_
        refine t_X9_pair  q10 ?_
        show z_Sem mX9_otherBounds (sh.length, 0) 51 [(0, z_r 161), (1, z_i x1), (2, z_i x2), (3, z_i x3)] [z_i (f_X9_pair w x2 x3), z_r 175, z_i (w 172 (f_X9_pair w x2 x3)), z_i x1] (sh, w) Q
        obtain ⟨q11, ho7⟩ := ho7
        refine z_iald dX9_otherBounds_51 hh0.2.2.2.2.2.2.2.2.2.2.2.2.2.2.1 q11 ?_
        suffices hJ12 : z_Sem mX9_otherBounds (sh.length, 0) 60 [(0, z_r 161), (2, z_i x2), (3, z_i x3)] [z_i (if (w 172 (f_X9_pair w x2 x3)) = (w 175 (f_X9_pair w x2 x3)) then 0 else 1), z_i x1] (sh, w) Q by
          refine z_icmp_eq (tgt := 59) dX9_otherBounds_52 (by decide) (fun c13 => ?_) (fun c13 => ?_)
          · skip
            refine z_iconst dX9_otherBounds_59 (by decide) ?_
            refine z_sub (L' := [(0, z_r 161), (2, z_i x2), (3, z_i x3)]) [0, 2, 3] rfl ?_
            simp only [if_pos c13] at hJ12
            exact hJ12
          · skip
            refine z_iconst dX9_otherBounds_55 (by decide) ?_
            refine z_goto (tgt := 60) dX9_otherBounds_56 (by decide) ?_
            refine z_sub (L' := [(0, z_r 161), (2, z_i x2), (3, z_i x3)]) [0, 2, 3] rfl ?_
            simp only [if_neg c13] at hJ12
            exact hJ12
        simp only [if_neg c4] at hJ3
        exact hJ3
    obtain ⟨q16, h⟩ := h
    refine z_iadd dX9_otherBounds_60 q16 ?_
    refine z_nam (fun y17 hy17 => ?_)
    replace h := h y17 hy17
    refine z_istore_n (L' := [(1, z_i y17), (0, z_r 161), (2, z_i x2), (3, z_i x3)]) dX9_otherBounds_61 rfl (by decide) rfl ?_
    obtain ⟨q18, h⟩ := h
    refine z_iinc (L' := [(3, z_i (x3 + 1)), (1, z_i y17), (0, z_r 161), (2, z_i x2)]) 3 dX9_otherBounds_62 rfl (by decide) rfl q18 ?_
    refine z_goto (tgt := 16) dX9_otherBounds_65 (by decide) ?_
    refine z_sub (L' := [(0, z_r 161), (1, z_i y17), (2, z_i x2), (3, z_i (x3 + 1))]) [2, 1, 3, 0] rfl ?_
    exact h
