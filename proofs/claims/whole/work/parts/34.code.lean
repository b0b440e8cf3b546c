set_option maxRecDepth 100000 in
theorem t_X9_tighten {sh : List z_C} {w : Nat → Int → Int} {Q : Option z_V → z_S → Prop}  (hh0 : z_isMod sh 161) (h : z_CV mX9_begins [z_r 161] sh w (fun w1 => z_CI mX9_lays [z_r 161] sh w1 (fun y3 w2 => z_Sem mX9_tighten (sh.length, 0) 13 [(0, z_r 161), (2, z_i 0), (3, z_i 0)] [] (sh, w2) Q))) : z_Sem mX9_tighten (sh.length, 0) 0 [(0, z_r 161)] [] (sh, w) Q := by
  refine z_aload_n 0 dX9_tighten_0 rfl rfl ?_
  refine z_callV (As := []) (rest := []) zmX9_begins znX9_begins zsX9_begins (show vwCl[9]? = some (RX9, TX9, 29) from rfl) zlRX9_69 ⟨Nat.le_of_ble_eq_true rfl, Nat.le_of_ble_eq_true rfl⟩ dX9_tighten_1 hh0.1 rfl rfl z_a0 (Nat.le_of_ble_eq_true rfl) (Nat.le_of_ble_eq_true rfl) ⟨Nat.le_refl _, Nat.le_refl _⟩ (z_CVm h ?_)
  intro w1 h
  show z_Sem mX9_tighten (sh.length, 0) 4 [(0, z_r 161)] [] (sh, w1) Q
  refine z_aload_n 0 dX9_tighten_4 rfl rfl ?_
  refine z_callV (As := []) (rest := []) zmX9_lays znX9_lays zsX9_lays (show vwCl[9]? = some (RX9, TX9, 29) from rfl) zlRX9_126 ⟨Nat.le_of_ble_eq_true rfl, Nat.le_of_ble_eq_true rfl⟩ dX9_tighten_5 hh0.1 rfl rfl z_a0 (Nat.le_of_ble_eq_true rfl) (Nat.le_of_ble_eq_true rfl) ⟨Nat.le_refl _, Nat.le_refl _⟩ (z_CIm h ?_)
  intro y3 w2 h
  show z_Sem mX9_tighten (sh.length, 0) 8 [(0, z_r 161)] [z_i y3] (sh, w2) Q
  refine z_istore_n (L' := [(1, z_i y3), (0, z_r 161)]) dX9_tighten_8 rfl (by decide) rfl ?_
  refine z_iconst dX9_tighten_9 (by decide) ?_
  refine z_istore_n (L' := [(2, z_i 0), (1, z_i y3), (0, z_r 161)]) dX9_tighten_10 rfl (by decide) rfl ?_
  refine z_iconst dX9_tighten_11 (by decide) ?_
  refine z_istore_n (L' := [(3, z_i 0), (2, z_i 0), (1, z_i y3), (0, z_r 161)]) dX9_tighten_12 rfl (by decide) rfl ?_
  refine z_sub (L' := [(0, z_r 161), (2, z_i 0), (3, z_i 0)]) [3, 1, 0] rfl ?_
  exact h
set_option maxRecDepth 100000 in
theorem t_X9_tighten_13 {sh : List z_C} {w : Nat → Int → Int} {Q : Option z_V → z_S → Prop} {x2 : Int} {x3 : Int} (hh0 : z_isMod sh 161) (h : (((w 163 2) ≤ x3 → ((x2 = 0 → z_CI mX9_fails [z_r 161, z_i (-2)] sh w (fun y11 w10 => Q (some (z_i y11)) (sh, w10))) ∧ (¬ x2 = 0 → z_CI mX9_lays [z_r 161] sh w (fun y4 w3 => z_CI mX9_allRoom [z_r 161] sh w3 (fun y6 w5 => z_CV mX9_logs [z_r 161, z_i 11, z_i x2, z_i y6] sh w5 (fun w7 => z_CI mX9_done [z_r 161, z_i x2] sh w7 (fun y9 w8 => Q (some (z_i y9)) (sh, w8)))))))) ∧ (¬ (w 163 2) ≤ x3 → (s_X9_fromOf w x3) ∧ (s_X9_toOf w x3) ∧ (s_X9_boundOf w (f_X9_fromOf w x3) (f_X9_toOf w x3)) ∧ ∀ y15 : Int, y15 = (f_X9_boundOf w (f_X9_fromOf w x3) (f_X9_toOf w x3)) → (s_X9_of w x3 2) ∧ (¬ (f_X9_of w x3 2) = 0 → (z_R (-y15)) ∧ True) ∧ ∀ y23 : Int, y23 = (if (f_X9_of w x3 2) = 0 then y15 else -y15) → (s_X9_isOn w x3) ∧ (((f_X9_isOn w x3) = 0 → (z_R (x3 + 1)) ∧ z_Sem mX9_tighten (sh.length, 0) 13 [(0, z_r 161), (2, z_i x2), (3, z_i (x3 + 1))] [] (sh, w) Q) ∧ (¬ (f_X9_isOn w x3) = 0 → (s_X9_isTight w x3) ∧ (((f_X9_isTight w x3) = 0 → ((y23 < 0 → (z_R (x3 + 1)) ∧ z_Sem mX9_tighten (sh.length, 0) 13 [(0, z_r 161), (2, z_i x2), (3, z_i (x3 + 1))] [] (sh, w) Q) ∧ (¬ y23 < 0 → z_CV mX9_puts [z_r 161, z_i x3, z_i 3, z_i y23] sh w (fun w32 => (z_R (x2 + 1)) ∧ (z_R (x3 + 1)) ∧ z_Sem mX9_tighten (sh.length, 0) 13 [(0, z_r 161), (2, z_i (x2 + 1)), (3, z_i (x3 + 1))] [] (sh, w32) Q)))) ∧ (¬ (f_X9_isTight w x3) = 0 → (z_R (x3 + 1)) ∧ z_Sem mX9_tighten (sh.length, 0) 13 [(0, z_r 161), (2, z_i x2), (3, z_i (x3 + 1))] [] (sh, w) Q))))))) : z_Sem mX9_tighten (sh.length, 0) 13 [(0, z_r 161), (2, z_i x2), (3, z_i x3)] [] (sh, w) Q := by
  refine z_iload_n 2 dX9_tighten_13 rfl rfl ?_
  refine z_aload_n 0 dX9_tighten_14 rfl rfl ?_
  refine z_getR (r := 163) zfRX9_17 dX9_tighten_15 hh0.1 rfl ?_
  refine z_iconst dX9_tighten_18 (by decide) ?_
  refine z_iald dX9_tighten_19 hh0.2.2.1 (by decide) ?_
  refine z_icmp_ge (tgt := 96) dX9_tighten_20 (by decide) (fun c1 => ?_) (fun c1 => ?_)
  · replace h := h.1 c1
    refine z_iload_n 1 dX9_tighten_96 rfl rfl ?_
    refine z_if_ne (tgt := 107) dX9_tighten_97 (by decide) (fun c2 => ?_) (fun c2 => ?_)
    · replace h := h.2 c2
      refine z_aload_n 0 dX9_tighten_107 rfl rfl ?_
      refine z_callV (As := []) (rest := []) zmX9_lays znX9_lays zsX9_lays (show vwCl[9]? = some (RX9, TX9, 29) from rfl) zlRX9_126 ⟨Nat.le_of_ble_eq_true rfl, Nat.le_of_ble_eq_true rfl⟩ dX9_tighten_108 hh0.1 rfl rfl z_a0 (Nat.le_of_ble_eq_true rfl) (Nat.le_of_ble_eq_true rfl) ⟨Nat.le_refl _, Nat.le_refl _⟩ (z_CIm h ?_)
      intro y4 w3 h
      show z_Sem mX9_tighten (sh.length, 0) 111 [(0, z_r 161), (2, z_i x2), (3, z_i x3)] [z_i y4] (sh, w3) Q
      refine z_istore_n (L' := [(1, z_i y4), (0, z_r 161), (2, z_i x2), (3, z_i x3)]) dX9_tighten_111 rfl (by decide) rfl ?_
      refine z_aload_n 1 dX9_tighten_112 rfl rfl ?_
      refine z_bipush dX9_tighten_113 (by decide) (by decide) ?_
      refine z_iload_n 2 dX9_tighten_115 rfl rfl ?_
      refine z_aload_n 1 dX9_tighten_116 rfl rfl ?_
      refine z_callV (As := []) (rest := [z_i x2, z_i 11, z_r 161]) zmX9_allRoom znX9_allRoom zsX9_allRoom (show vwCl[9]? = some (RX9, TX9, 29) from rfl) zlRX9_169 ⟨Nat.le_of_ble_eq_true rfl, Nat.le_of_ble_eq_true rfl⟩ dX9_tighten_117 hh0.1 rfl rfl z_a0 (Nat.le_of_ble_eq_true rfl) (Nat.le_of_ble_eq_true rfl) ⟨Nat.le_refl _, Nat.le_refl _⟩ (z_CIm h ?_)
      intro y6 w5 h
      show z_Sem mX9_tighten (sh.length, 0) 120 [(1, z_i y4), (0, z_r 161), (2, z_i x2), (3, z_i x3)] [z_i y6, z_i x2, z_i 11, z_r 161] (sh, w5) Q
      refine z_callV (As := [z_i 11, z_i x2, z_i y6]) (rest := []) zmX9_logs znX9_logs zsX9_logs (show vwCl[9]? = some (RX9, TX9, 29) from rfl) zlRX9_140 ⟨Nat.le_of_ble_eq_true rfl, Nat.le_of_ble_eq_true rfl⟩ dX9_tighten_120 hh0.1 rfl rfl (z_ai (z_ai (z_ai z_a0))) (Nat.le_of_ble_eq_true rfl) (Nat.le_of_ble_eq_true rfl) ⟨Nat.le_refl _, Nat.le_refl _⟩ (z_CVm h ?_)
      intro w7 h
      show z_Sem mX9_tighten (sh.length, 0) 123 [(1, z_i y4), (0, z_r 161), (2, z_i x2), (3, z_i x3)] [] (sh, w7) Q
      refine z_aload_n 1 dX9_tighten_123 rfl rfl ?_
      refine z_iload_n 2 dX9_tighten_124 rfl rfl ?_
      refine z_callV (As := [z_i x2]) (rest := []) zmX9_done znX9_done zsX9_done (show vwCl[9]? = some (RX9, TX9, 29) from rfl) zlRX9_72 ⟨Nat.le_of_ble_eq_true rfl, Nat.le_of_ble_eq_true rfl⟩ dX9_tighten_125 hh0.1 rfl rfl (z_ai z_a0) (Nat.le_of_ble_eq_true rfl) (Nat.le_of_ble_eq_true rfl) ⟨Nat.le_refl _, Nat.le_refl _⟩ (z_CIm h ?_)
      intro y9 w8 h
      show z_Sem mX9_tighten (sh.length, 0) 128 [(1, z_i y4), (0, z_r 161), (2, z_i x2), (3, z_i x3)] [z_i y9] (sh, w8) Q
      exact z_ret (v := some (z_i y9)) dX9_tighten_128 ⟨rfl, Or.inl rfl⟩ rfl rfl h
    · replace h := h.1 c2
      refine z_aload_n 0 dX9_tighten_100 rfl rfl ?_
      refine z_bipush dX9_tighten_101 (by decide) (by decide) ?_
      refine z_callV (As := [z_i (-2)]) (rest := []) zmX9_fails znX9_fails zsX9_fails (show vwCl[9]? = some (RX9, TX9, 29) from rfl) zlRX9_137 ⟨Nat.le_of_ble_eq_true rfl, Nat.le_of_ble_eq_true rfl⟩ dX9_tighten_103 hh0.1 rfl rfl (z_ai z_a0) (Nat.le_of_ble_eq_true rfl) (Nat.le_of_ble_eq_true rfl) ⟨Nat.le_refl _, Nat.le_refl _⟩ (z_CIm h ?_)
      intro y11 w10 h
      show z_Sem mX9_tighten (sh.length, 0) 106 [(0, z_r 161), (2, z_i x2), (3, z_i x3)] [z_i y11] (sh, w10) Q
      exact z_ret (v := some (z_i y11)) dX9_tighten_106 ⟨rfl, Or.inl rfl⟩ rfl rfl h
  · replace h := h.2 c1
    refine z_aload_n 0 dX9_tighten_23 rfl rfl ?_
    refine z_aload_n 0 dX9_tighten_24 rfl rfl ?_
    refine z_iload_n 2 dX9_tighten_25 rfl rfl ?_
    obtain ⟨q12, h⟩ := h
    refine z_callV (As := [z_i x3]) (rest := [z_r 161]) zmX9_fromOf znX9_fromOf zsX9_fromOf (show vwCl[9]? = some (RX9, TX9, 29) from rfl) zlRX9_90 ⟨Nat.le_of_ble_eq_true rfl, Nat.le_of_ble_eq_true rfl⟩ dX9_tighten_26 hh0.1 rfl rfl (z_ai z_a0) (Nat.le_of_ble_eq_true rfl) (Nat.le_of_ble_eq_true rfl) ⟨Nat.le_refl _, Nat.le_refl _⟩ ?_
    refine t_X9_fromOf hh0 q12 ?_
    show z_Sem mX9_tighten (sh.length, 0) 29 [(0, z_r 161), (2, z_i x2), (3, z_i x3)] [z_i (f_X9_fromOf w x3), z_r 161] (sh, w) Q
    refine z_aload_n 0 dX9_tighten_29 rfl rfl ?_
    refine z_iload_n 2 dX9_tighten_30 rfl rfl ?_
    obtain ⟨q13, h⟩ := h
    refine z_callV (As := [z_i x3]) (rest := [z_i (f_X9_fromOf w x3), z_r 161]) zmX9_toOf znX9_toOf zsX9_toOf (show vwCl[9]? = some (RX9, TX9, 29) from rfl) zlRX9_93 ⟨Nat.le_of_ble_eq_true rfl, Nat.le_of_ble_eq_true rfl⟩ dX9_tighten_31 hh0.1 rfl rfl (z_ai z_a0) (Nat.le_of_ble_eq_true rfl) (Nat.le_of_ble_eq_true rfl) ⟨Nat.le_refl _, Nat.le_refl _⟩ ?_
    refine t_X9_toOf hh0 q13 ?_
    show z_Sem mX9_tighten (sh.length, 0) 34 [(0, z_r 161), (2, z_i x2), (3, z_i x3)] [z_i (f_X9_toOf w x3), z_i (f_X9_fromOf w x3), z_r 161] (sh, w) Q
    obtain ⟨q14, h⟩ := h
    refine z_callV (As := [z_i (f_X9_fromOf w x3), z_i (f_X9_toOf w x3)]) (rest := []) zmX9_boundOf znX9_boundOf zsX9_boundOf (show vwCl[9]? = some (RX9, TX9, 29) from rfl) zlRX9_113 ⟨Nat.le_of_ble_eq_true rfl, Nat.le_of_ble_eq_true rfl⟩ dX9_tighten_34 hh0.1 rfl rfl (z_ai (z_ai z_a0)) (Nat.le_of_ble_eq_true rfl) (Nat.le_of_ble_eq_true rfl) ⟨Nat.le_refl _, Nat.le_refl _⟩ ?_
    refine t_X9_boundOf hh0 q14 ?_
    show z_Sem mX9_tighten (sh.length, 0) 37 [(0, z_r 161), (2, z_i x2), (3, z_i x3)] [z_i (f_X9_boundOf w (f_X9_fromOf w x3) (f_X9_toOf w x3))] (sh, w) Q
    refine z_nam (fun y15 hy15 => ?_)
    replace h := h y15 hy15
    refine z_istore (L' := [(4, z_i y15), (0, z_r 161), (2, z_i x2), (3, z_i x3)]) dX9_tighten_37 (by decide) rfl ?_
    refine z_aload_n 1 dX9_tighten_39 rfl rfl ?_
    refine z_iload_n 3 dX9_tighten_40 rfl rfl ?_
    refine z_iconst dX9_tighten_41 (by decide) ?_
    obtain ⟨q16, h⟩ := h
    refine z_callV (As := [z_i x3, z_i 2]) (rest := []) zmX9_of znX9_of zsX9_of (show vwCl[9]? = some (RX9, TX9, 29) from rfl) zlRX9_76 ⟨Nat.le_of_ble_eq_true rfl, Nat.le_of_ble_eq_true rfl⟩ dX9_tighten_42 hh0.1 rfl rfl (z_ai (z_ai z_a0)) (Nat.le_of_ble_eq_true rfl) (Nat.le_of_ble_eq_true rfl) ⟨Nat.le_refl _, Nat.le_refl _⟩ ?_
    refine t_X9_of hh0 q16 ?_
    show z_Sem mX9_tighten (sh.length, 0) 45 [(4, z_i y15), (0, z_r 161), (2, z_i x2), (3, z_i x3)] [z_i (f_X9_of w x3 2)] (sh, w) Q
    obtain ⟨m19, h⟩ := h
    suffices hJ17 : z_Sem mX9_tighten (sh.length, 0) 56 [(0, z_r 161), (2, z_i x2), (3, z_i x3)] [z_i (if (f_X9_of w x3 2) = 0 then y15 else -y15)] (sh, w) Q by
      refine z_if_ne (tgt := 53) dX9_tighten_45 (by decide) (fun c18 => ?_) (fun c18 => ?_)
      · skip
        have ho20 := m19 c18
        refine z_iload 0 dX9_tighten_53 rfl ?_
        obtain ⟨q21, ho20⟩ := ho20
        refine z_ineg dX9_tighten_55 q21 ?_
        refine z_sub (L' := [(0, z_r 161), (2, z_i x2), (3, z_i x3)]) [1, 2, 3] rfl ?_
        simp only [if_neg c18] at hJ17
        exact hJ17
      · skip
        refine z_iload 0 dX9_tighten_48 rfl ?_
        refine z_goto (tgt := 56) dX9_tighten_50 (by decide) ?_
        refine z_sub (L' := [(0, z_r 161), (2, z_i x2), (3, z_i x3)]) [1, 2, 3] rfl ?_
        simp only [if_pos c18] at hJ17
        exact hJ17
    refine z_nam (fun y23 hy23 => ?_)
    replace h := h y23 hy23
    refine z_istore (L' := [(4, z_i y23), (0, z_r 161), (2, z_i x2), (3, z_i x3)]) dX9_tighten_56 (by decide) rfl ?_
    refine z_aload_n 1 dX9_tighten_58 rfl rfl ?_
    refine z_iload_n 3 dX9_tighten_59 rfl rfl ?_
    obtain ⟨q24, h⟩ := h
    refine z_callV (As := [z_i x3]) (rest := []) zmX9_isOn znX9_isOn zsX9_isOn (show vwCl[9]? = some (RX9, TX9, 29) from rfl) zlRX9_87 ⟨Nat.le_of_ble_eq_true rfl, Nat.le_of_ble_eq_true rfl⟩ dX9_tighten_60 hh0.1 rfl rfl (z_ai z_a0) (Nat.le_of_ble_eq_true rfl) (Nat.le_of_ble_eq_true rfl) ⟨Nat.le_refl _, Nat.le_refl _⟩ ?_
    refine t_X9_isOn hh0 q24 ?_
    show z_Sem mX9_tighten (sh.length, 0) 63 [(4, z_i y23), (0, z_r 161), (2, z_i x2), (3, z_i x3)] [z_i (f_X9_isOn w x3)] (sh, w) Q
    refine z_if_eq (tgt := 90) dX9_tighten_63 (by decide) (fun c25 => ?_) (fun c25 => ?_)
    · replace h := h.1 c25
      obtain ⟨q26, h⟩ := h
      refine z_iinc (L' := [(3, z_i (x3 + 1)), (4, z_i y23), (0, z_r 161), (2, z_i x2)]) 3 dX9_tighten_90 rfl (by decide) rfl q26 ?_
      refine z_goto (tgt := 13) dX9_tighten_93 (by decide) ?_
      refine z_sub (L' := [(0, z_r 161), (2, z_i x2), (3, z_i (x3 + 1))]) [2, 3, 0] rfl ?_
      exact h
    · replace h := h.2 c25
      refine z_aload_n 1 dX9_tighten_66 rfl rfl ?_
      refine z_iload_n 3 dX9_tighten_67 rfl rfl ?_
      obtain ⟨q27, h⟩ := h
      refine z_callV (As := [z_i x3]) (rest := []) zmX9_isTight znX9_isTight zsX9_isTight (show vwCl[9]? = some (RX9, TX9, 29) from rfl) zlRX9_130 ⟨Nat.le_of_ble_eq_true rfl, Nat.le_of_ble_eq_true rfl⟩ dX9_tighten_68 hh0.1 rfl rfl (z_ai z_a0) (Nat.le_of_ble_eq_true rfl) (Nat.le_of_ble_eq_true rfl) ⟨Nat.le_refl _, Nat.le_refl _⟩ ?_
      refine t_X9_isTight hh0 q27 ?_
      show z_Sem mX9_tighten (sh.length, 0) 71 [(4, z_i y23), (0, z_r 161), (2, z_i x2), (3, z_i x3)] [z_i (f_X9_isTight w x3)] (sh, w) Q
      refine z_if_ne (tgt := 90) dX9_tighten_71 (by decide) (fun c28 => ?_) (fun c28 => ?_)
      · replace h := h.2 c28
        obtain ⟨q29, h⟩ := h
        refine z_iinc (L' := [(3, z_i (x3 + 1)), (4, z_i y23), (0, z_r 161), (2, z_i x2)]) 3 dX9_tighten_90 rfl (by decide) rfl q29 ?_
        refine z_goto (tgt := 13) dX9_tighten_93 (by decide) ?_
        refine z_sub (L' := [(0, z_r 161), (2, z_i x2), (3, z_i (x3 + 1))]) [2, 3, 0] rfl ?_
        exact h
      · replace h := h.1 c28
        refine z_iload 0 dX9_tighten_74 rfl ?_
        refine z_if_lt (tgt := 90) dX9_tighten_76 (by decide) (fun c30 => ?_) (fun c30 => ?_)
        · replace h := h.1 c30
          obtain ⟨q31, h⟩ := h
          refine z_iinc (L' := [(3, z_i (x3 + 1)), (4, z_i y23), (0, z_r 161), (2, z_i x2)]) 3 dX9_tighten_90 rfl (by decide) rfl q31 ?_
          refine z_goto (tgt := 13) dX9_tighten_93 (by decide) ?_
          refine z_sub (L' := [(0, z_r 161), (2, z_i x2), (3, z_i (x3 + 1))]) [2, 3, 0] rfl ?_
          exact h
        · replace h := h.2 c30
          refine z_aload_n 1 dX9_tighten_79 rfl rfl ?_
          refine z_iload_n 3 dX9_tighten_80 rfl rfl ?_
          refine z_iconst dX9_tighten_81 (by decide) ?_
          refine z_iload 0 dX9_tighten_82 rfl ?_
          refine z_callV (As := [z_i x3, z_i 3, z_i y23]) (rest := []) zmX9_puts znX9_puts zsX9_puts (show vwCl[9]? = some (RX9, TX9, 29) from rfl) zlRX9_133 ⟨Nat.le_of_ble_eq_true rfl, Nat.le_of_ble_eq_true rfl⟩ dX9_tighten_84 hh0.1 rfl rfl (z_ai (z_ai (z_ai z_a0))) (Nat.le_of_ble_eq_true rfl) (Nat.le_of_ble_eq_true rfl) ⟨Nat.le_refl _, Nat.le_refl _⟩ (z_CVm h ?_)
          intro w32 h
          show z_Sem mX9_tighten (sh.length, 0) 87 [(4, z_i y23), (0, z_r 161), (2, z_i x2), (3, z_i x3)] [] (sh, w32) Q
          obtain ⟨q33, h⟩ := h
          refine z_iinc (L' := [(2, z_i (x2 + 1)), (4, z_i y23), (0, z_r 161), (3, z_i x3)]) 2 dX9_tighten_87 rfl (by decide) rfl q33 ?_
          obtain ⟨q34, h⟩ := h
          refine z_iinc (L' := [(3, z_i (x3 + 1)), (2, z_i (x2 + 1)), (4, z_i y23), (0, z_r 161)]) 3 dX9_tighten_90 rfl (by decide) rfl q34 ?_
          refine z_goto (tgt := 13) dX9_tighten_93 (by decide) ?_
          refine z_sub (L' := [(0, z_r 161), (2, z_i (x2 + 1)), (3, z_i (x3 + 1))]) [3, 1, 0] rfl ?_
          exact h
set_option maxRecDepth 100000 in
theorem t_X9_firstNeedless {sh : List z_C} {w : Nat → Int → Int} {Q : Option z_V → z_S → Prop}  (hh0 : z_isMod sh 161) (h : z_Sem mX9_firstNeedless (sh.length, 0) 2 [(0, z_r 161), (1, z_i 0)] [] (sh, w) Q) : z_Sem mX9_firstNeedless (sh.length, 0) 0 [(0, z_r 161)] [] (sh, w) Q := by
  refine z_iconst dX9_firstNeedless_0 (by decide) ?_
  refine z_istore_n (L' := [(1, z_i 0), (0, z_r 161)]) dX9_firstNeedless_1 rfl (by decide) rfl ?_
  refine z_sub (L' := [(0, z_r 161), (1, z_i 0)]) [1, 0] rfl ?_
  exact h
set_option maxRecDepth 100000 in
theorem t_X9_firstNeedless_2 {sh : List z_C} {w : Nat → Int → Int} {Q : Option z_V → z_S → Prop} {x1 : Int} (hh0 : z_isMod sh 161) (h : (((w 163 2) ≤ x1 → Q (some (z_i (-2))) (sh, w)) ∧ (¬ (w 163 2) ≤ x1 → (s_X9_isOn w x1) ∧ (((f_X9_isOn w x1) = 0 → (z_R (x1 + 1)) ∧ z_Sem mX9_firstNeedless (sh.length, 0) 2 [(0, z_r 161), (1, z_i (x1 + 1))] [] (sh, w) Q) ∧ (¬ (f_X9_isOn w x1) = 0 → z_CI mX9_isNeeded [z_r 161, z_i x1] sh w (fun y6 w5 => ((y6 = 0 → Q (some (z_i x1)) (sh, w5)) ∧ (¬ y6 = 0 → (z_R (x1 + 1)) ∧ z_Sem mX9_firstNeedless (sh.length, 0) 2 [(0, z_r 161), (1, z_i (x1 + 1))] [] (sh, w5) Q)))))))) : z_Sem mX9_firstNeedless (sh.length, 0) 2 [(0, z_r 161), (1, z_i x1)] [] (sh, w) Q := by
  refine z_iload_n 1 dX9_firstNeedless_2 rfl rfl ?_
  refine z_aload_n 0 dX9_firstNeedless_3 rfl rfl ?_
  refine z_getR (r := 163) zfRX9_17 dX9_firstNeedless_4 hh0.1 rfl ?_
  refine z_iconst dX9_firstNeedless_7 (by decide) ?_
  refine z_iald dX9_firstNeedless_8 hh0.2.2.1 (by decide) ?_
  refine z_icmp_ge (tgt := 36) dX9_firstNeedless_9 (by decide) (fun c1 => ?_) (fun c1 => ?_)
  · replace h := h.1 c1
    refine z_bipush dX9_firstNeedless_36 (by decide) (by decide) ?_
    exact z_ret (v := some (z_i (-2))) dX9_firstNeedless_38 ⟨rfl, Or.inl rfl⟩ rfl rfl h
  · replace h := h.2 c1
    refine z_aload_n 0 dX9_firstNeedless_12 rfl rfl ?_
    refine z_iload_n 1 dX9_firstNeedless_13 rfl rfl ?_
    obtain ⟨q2, h⟩ := h
    refine z_callV (As := [z_i x1]) (rest := []) zmX9_isOn znX9_isOn zsX9_isOn (show vwCl[9]? = some (RX9, TX9, 29) from rfl) zlRX9_87 ⟨Nat.le_of_ble_eq_true rfl, Nat.le_of_ble_eq_true rfl⟩ dX9_firstNeedless_14 hh0.1 rfl rfl (z_ai z_a0) (Nat.le_of_ble_eq_true rfl) (Nat.le_of_ble_eq_true rfl) ⟨Nat.le_refl _, Nat.le_refl _⟩ ?_
    refine t_X9_isOn hh0 q2 ?_
    show z_Sem mX9_firstNeedless (sh.length, 0) 17 [(0, z_r 161), (1, z_i x1)] [z_i (f_X9_isOn w x1)] (sh, w) Q
    refine z_if_eq (tgt := 30) dX9_firstNeedless_17 (by decide) (fun c3 => ?_) (fun c3 => ?_)
    · replace h := h.1 c3
      obtain ⟨q4, h⟩ := h
      refine z_iinc (L' := [(1, z_i (x1 + 1)), (0, z_r 161)]) 1 dX9_firstNeedless_30 rfl (by decide) rfl q4 ?_
      refine z_goto (tgt := 2) dX9_firstNeedless_33 (by decide) ?_
      refine z_sub (L' := [(0, z_r 161), (1, z_i (x1 + 1))]) [1, 0] rfl ?_
      exact h
    · replace h := h.2 c3
      refine z_aload_n 0 dX9_firstNeedless_20 rfl rfl ?_
      refine z_iload_n 1 dX9_firstNeedless_21 rfl rfl ?_
      refine z_callV (As := [z_i x1]) (rest := []) zmX9_isNeeded znX9_isNeeded zsX9_isNeeded (show vwCl[9]? = some (RX9, TX9, 29) from rfl) zlRX9_172 ⟨Nat.le_of_ble_eq_true rfl, Nat.le_of_ble_eq_true rfl⟩ dX9_firstNeedless_22 hh0.1 rfl rfl (z_ai z_a0) (Nat.le_of_ble_eq_true rfl) (Nat.le_of_ble_eq_true rfl) ⟨Nat.le_refl _, Nat.le_refl _⟩ (z_CIm h ?_)
      intro y6 w5 h
      show z_Sem mX9_firstNeedless (sh.length, 0) 25 [(0, z_r 161), (1, z_i x1)] [z_i y6] (sh, w5) Q
      refine z_if_ne (tgt := 30) dX9_firstNeedless_25 (by decide) (fun c7 => ?_) (fun c7 => ?_)
      · replace h := h.2 c7
        obtain ⟨q8, h⟩ := h
        refine z_iinc (L' := [(1, z_i (x1 + 1)), (0, z_r 161)]) 1 dX9_firstNeedless_30 rfl (by decide) rfl q8 ?_
        refine z_goto (tgt := 2) dX9_firstNeedless_33 (by decide) ?_
        refine z_sub (L' := [(0, z_r 161), (1, z_i (x1 + 1))]) [1, 0] rfl ?_
        exact h
      · replace h := h.1 c7
        refine z_iload_n 1 dX9_firstNeedless_28 rfl rfl ?_
        exact z_ret (v := some (z_i x1)) dX9_firstNeedless_29 ⟨rfl, Or.inl rfl⟩ rfl rfl h
set_option maxRecDepth 100000 in
theorem t_X9_thin {sh : List z_C} {w : Nat → Int → Int} {Q : Option z_V → z_S → Prop}  (hh0 : z_isMod sh 161) (h : z_CV mX9_begins [z_r 161] sh w (fun w1 => z_CI mX9_firstNeedless [z_r 161] sh w1 (fun y3 w2 => z_Sem mX9_thin (sh.length, 0) 11 [(0, z_r 161), (1, z_i 0), (2, z_i y3)] [] (sh, w2) Q))) : z_Sem mX9_thin (sh.length, 0) 0 [(0, z_r 161)] [] (sh, w) Q := by
  refine z_aload_n 0 dX9_thin_0 rfl rfl ?_
  refine z_callV (As := []) (rest := []) zmX9_begins znX9_begins zsX9_begins (show vwCl[9]? = some (RX9, TX9, 29) from rfl) zlRX9_69 ⟨Nat.le_of_ble_eq_true rfl, Nat.le_of_ble_eq_true rfl⟩ dX9_thin_1 hh0.1 rfl rfl z_a0 (Nat.le_of_ble_eq_true rfl) (Nat.le_of_ble_eq_true rfl) ⟨Nat.le_refl _, Nat.le_refl _⟩ (z_CVm h ?_)
  intro w1 h
  show z_Sem mX9_thin (sh.length, 0) 4 [(0, z_r 161)] [] (sh, w1) Q
  refine z_iconst dX9_thin_4 (by decide) ?_
  refine z_istore_n (L' := [(1, z_i 0), (0, z_r 161)]) dX9_thin_5 rfl (by decide) rfl ?_
  refine z_aload_n 1 dX9_thin_6 rfl rfl ?_
  refine z_callV (As := []) (rest := []) zmX9_firstNeedless znX9_firstNeedless zsX9_firstNeedless (show vwCl[9]? = some (RX9, TX9, 29) from rfl) zlRX9_175 ⟨Nat.le_of_ble_eq_true rfl, Nat.le_of_ble_eq_true rfl⟩ dX9_thin_7 hh0.1 rfl rfl z_a0 (Nat.le_of_ble_eq_true rfl) (Nat.le_of_ble_eq_true rfl) ⟨Nat.le_refl _, Nat.le_refl _⟩ (z_CIm h ?_)
  intro y3 w2 h
  show z_Sem mX9_thin (sh.length, 0) 10 [(1, z_i 0), (0, z_r 161)] [z_i y3] (sh, w2) Q
  refine z_istore_n (L' := [(2, z_i y3), (1, z_i 0), (0, z_r 161)]) dX9_thin_10 rfl (by decide) rfl ?_
  refine z_sub (L' := [(0, z_r 161), (1, z_i 0), (2, z_i y3)]) [2, 1, 0] rfl ?_
  exact h
set_option maxRecDepth 100000 in
theorem t_X9_thin_11 {sh : List z_C} {w : Nat → Int → Int} {Q : Option z_V → z_S → Prop} {x1 : Int} {x2 : Int} (hh0 : z_isMod sh 161) (h : ((x2 < 0 → ((x1 = 0 → z_CI mX9_fails [z_r 161, z_i (-2)] sh w (fun y7 w6 => Q (some (z_i y7)) (sh, w6))) ∧ (¬ x1 = 0 → z_CV mX9_logs [z_r 161, z_i 12, z_i x1, z_i (w 163 2)] sh w (fun w3 => z_CI mX9_done [z_r 161, z_i x1] sh w3 (fun y5 w4 => Q (some (z_i y5)) (sh, w4)))))) ∧ (¬ x2 < 0 → z_CV mX9_drops [z_r 161, z_i x2] sh w (fun w8 => (z_R (x1 + 1)) ∧ z_CI mX9_firstNeedless [z_r 161] sh w8 (fun y11 w10 => z_Sem mX9_thin (sh.length, 0) 11 [(0, z_r 161), (1, z_i (x1 + 1)), (2, z_i y11)] [] (sh, w10) Q))))) : z_Sem mX9_thin (sh.length, 0) 11 [(0, z_r 161), (1, z_i x1), (2, z_i x2)] [] (sh, w) Q := by
  refine z_iload_n 2 dX9_thin_11 rfl rfl ?_
  refine z_if_lt (tgt := 31) dX9_thin_12 (by decide) (fun c1 => ?_) (fun c1 => ?_)
  · replace h := h.1 c1
    refine z_iload_n 1 dX9_thin_31 rfl rfl ?_
    refine z_if_ne (tgt := 42) dX9_thin_32 (by decide) (fun c2 => ?_) (fun c2 => ?_)
    · replace h := h.2 c2
      refine z_aload_n 0 dX9_thin_42 rfl rfl ?_
      refine z_bipush dX9_thin_43 (by decide) (by decide) ?_
      refine z_iload_n 1 dX9_thin_45 rfl rfl ?_
      refine z_aload_n 0 dX9_thin_46 rfl rfl ?_
      refine z_getR (r := 163) zfRX9_17 dX9_thin_47 hh0.1 rfl ?_
      refine z_iconst dX9_thin_50 (by decide) ?_
      refine z_iald dX9_thin_51 hh0.2.2.1 (by decide) ?_
      refine z_callV (As := [z_i 12, z_i x1, z_i (w 163 2)]) (rest := []) zmX9_logs znX9_logs zsX9_logs (show vwCl[9]? = some (RX9, TX9, 29) from rfl) zlRX9_140 ⟨Nat.le_of_ble_eq_true rfl, Nat.le_of_ble_eq_true rfl⟩ dX9_thin_52 hh0.1 rfl rfl (z_ai (z_ai (z_ai z_a0))) (Nat.le_of_ble_eq_true rfl) (Nat.le_of_ble_eq_true rfl) ⟨Nat.le_refl _, Nat.le_refl _⟩ (z_CVm h ?_)
      intro w3 h
      show z_Sem mX9_thin (sh.length, 0) 55 [(0, z_r 161), (1, z_i x1), (2, z_i x2)] [] (sh, w3) Q
      refine z_aload_n 0 dX9_thin_55 rfl rfl ?_
      refine z_iload_n 1 dX9_thin_56 rfl rfl ?_
      refine z_callV (As := [z_i x1]) (rest := []) zmX9_done znX9_done zsX9_done (show vwCl[9]? = some (RX9, TX9, 29) from rfl) zlRX9_72 ⟨Nat.le_of_ble_eq_true rfl, Nat.le_of_ble_eq_true rfl⟩ dX9_thin_57 hh0.1 rfl rfl (z_ai z_a0) (Nat.le_of_ble_eq_true rfl) (Nat.le_of_ble_eq_true rfl) ⟨Nat.le_refl _, Nat.le_refl _⟩ (z_CIm h ?_)
      intro y5 w4 h
      show z_Sem mX9_thin (sh.length, 0) 60 [(0, z_r 161), (1, z_i x1), (2, z_i x2)] [z_i y5] (sh, w4) Q
      exact z_ret (v := some (z_i y5)) dX9_thin_60 ⟨rfl, Or.inl rfl⟩ rfl rfl h
    · replace h := h.1 c2
      refine z_aload_n 0 dX9_thin_35 rfl rfl ?_
      refine z_bipush dX9_thin_36 (by decide) (by decide) ?_
      refine z_callV (As := [z_i (-2)]) (rest := []) zmX9_fails znX9_fails zsX9_fails (show vwCl[9]? = some (RX9, TX9, 29) from rfl) zlRX9_137 ⟨Nat.le_of_ble_eq_true rfl, Nat.le_of_ble_eq_true rfl⟩ dX9_thin_38 hh0.1 rfl rfl (z_ai z_a0) (Nat.le_of_ble_eq_true rfl) (Nat.le_of_ble_eq_true rfl) ⟨Nat.le_refl _, Nat.le_refl _⟩ (z_CIm h ?_)
      intro y7 w6 h
      show z_Sem mX9_thin (sh.length, 0) 41 [(0, z_r 161), (1, z_i x1), (2, z_i x2)] [z_i y7] (sh, w6) Q
      exact z_ret (v := some (z_i y7)) dX9_thin_41 ⟨rfl, Or.inl rfl⟩ rfl rfl h
  · replace h := h.2 c1
    refine z_aload_n 0 dX9_thin_15 rfl rfl ?_
    refine z_iload_n 2 dX9_thin_16 rfl rfl ?_
    refine z_callV (As := [z_i x2]) (rest := []) zmX9_drops znX9_drops zsX9_drops (show vwCl[9]? = some (RX9, TX9, 29) from rfl) zlRX9_157 ⟨Nat.le_of_ble_eq_true rfl, Nat.le_of_ble_eq_true rfl⟩ dX9_thin_17 hh0.1 rfl rfl (z_ai z_a0) (Nat.le_of_ble_eq_true rfl) (Nat.le_of_ble_eq_true rfl) ⟨Nat.le_refl _, Nat.le_refl _⟩ (z_CVm h ?_)
    intro w8 h
    show z_Sem mX9_thin (sh.length, 0) 20 [(0, z_r 161), (1, z_i x1), (2, z_i x2)] [] (sh, w8) Q
    obtain ⟨q9, h⟩ := h
    refine z_iinc (L' := [(1, z_i (x1 + 1)), (0, z_r 161), (2, z_i x2)]) 1 dX9_thin_20 rfl (by decide) rfl q9 ?_
    refine z_aload_n 1 dX9_thin_23 rfl rfl ?_
    refine z_callV (As := []) (rest := []) zmX9_firstNeedless znX9_firstNeedless zsX9_firstNeedless (show vwCl[9]? = some (RX9, TX9, 29) from rfl) zlRX9_175 ⟨Nat.le_of_ble_eq_true rfl, Nat.le_of_ble_eq_true rfl⟩ dX9_thin_24 hh0.1 rfl rfl z_a0 (Nat.le_of_ble_eq_true rfl) (Nat.le_of_ble_eq_true rfl) ⟨Nat.le_refl _, Nat.le_refl _⟩ (z_CIm h ?_)
    intro y11 w10 h
    show z_Sem mX9_thin (sh.length, 0) 27 [(1, z_i (x1 + 1)), (0, z_r 161), (2, z_i x2)] [z_i y11] (sh, w10) Q
    refine z_istore_n (L' := [(2, z_i y11), (1, z_i (x1 + 1)), (0, z_r 161)]) dX9_thin_27 rfl (by decide) rfl ?_
    refine z_goto (tgt := 11) dX9_thin_28 (by decide) ?_
    refine z_sub (L' := [(0, z_r 161), (1, z_i (x1 + 1)), (2, z_i y11)]) [2, 1, 0] rfl ?_
    exact h
set_option maxRecDepth 100000 in
theorem t_X9_pinAll {sh : List z_C} {w : Nat → Int → Int} {Q : Option z_V → z_S → Prop}  (hh0 : z_isMod sh 161) (h : z_CV mX9_begins [z_r 161] sh w (fun w1 => z_CI mX9_lays [z_r 161] sh w1 (fun y3 w2 => z_Sem mX9_pinAll (sh.length, 0) 13 [(0, z_r 161), (2, z_i 0), (3, z_i 1)] [] (sh, w2) Q))) : z_Sem mX9_pinAll (sh.length, 0) 0 [(0, z_r 161)] [] (sh, w) Q := by
  refine z_aload_n 0 dX9_pinAll_0 rfl rfl ?_
  refine z_callV (As := []) (rest := []) zmX9_begins znX9_begins zsX9_begins (show vwCl[9]? = some (RX9, TX9, 29) from rfl) zlRX9_69 ⟨Nat.le_of_ble_eq_true rfl, Nat.le_of_ble_eq_true rfl⟩ dX9_pinAll_1 hh0.1 rfl rfl z_a0 (Nat.le_of_ble_eq_true rfl) (Nat.le_of_ble_eq_true rfl) ⟨Nat.le_refl _, Nat.le_refl _⟩ (z_CVm h ?_)
  intro w1 h
  show z_Sem mX9_pinAll (sh.length, 0) 4 [(0, z_r 161)] [] (sh, w1) Q
  refine z_aload_n 0 dX9_pinAll_4 rfl rfl ?_
  refine z_callV (As := []) (rest := []) zmX9_lays znX9_lays zsX9_lays (show vwCl[9]? = some (RX9, TX9, 29) from rfl) zlRX9_126 ⟨Nat.le_of_ble_eq_true rfl, Nat.le_of_ble_eq_true rfl⟩ dX9_pinAll_5 hh0.1 rfl rfl z_a0 (Nat.le_of_ble_eq_true rfl) (Nat.le_of_ble_eq_true rfl) ⟨Nat.le_refl _, Nat.le_refl _⟩ (z_CIm h ?_)
  intro y3 w2 h
  show z_Sem mX9_pinAll (sh.length, 0) 8 [(0, z_r 161)] [z_i y3] (sh, w2) Q
  refine z_istore_n (L' := [(1, z_i y3), (0, z_r 161)]) dX9_pinAll_8 rfl (by decide) rfl ?_
  refine z_iconst dX9_pinAll_9 (by decide) ?_
  refine z_istore_n (L' := [(2, z_i 0), (1, z_i y3), (0, z_r 161)]) dX9_pinAll_10 rfl (by decide) rfl ?_
  refine z_iconst dX9_pinAll_11 (by decide) ?_
  refine z_istore_n (L' := [(3, z_i 1), (2, z_i 0), (1, z_i y3), (0, z_r 161)]) dX9_pinAll_12 rfl (by decide) rfl ?_
  refine z_sub (L' := [(0, z_r 161), (2, z_i 0), (3, z_i 1)]) [3, 1, 0] rfl ?_
  exact h
set_option maxRecDepth 100000 in
theorem t_X9_pinAll_13 {sh : List z_C} {w : Nat → Int → Int} {Q : Option z_V → z_S → Prop} {x2 : Int} {x3 : Int} (hh0 : z_isMod sh 161) (h : (((w 163 1) ≤ x3 → ((x2 = 0 → z_CI mX9_fails [z_r 161, z_i (-2)] sh w (fun y9 w8 => Q (some (z_i y9)) (sh, w8))) ∧ (¬ x2 = 0 → z_CI mX9_pinned [z_r 161] sh w (fun y4 w3 => z_CV mX9_logs [z_r 161, z_i 13, z_i x2, z_i y4] sh w3 (fun w5 => z_CI mX9_done [z_r 161, z_i x2] sh w5 (fun y7 w6 => Q (some (z_i y7)) (sh, w6))))))) ∧ (¬ (w 163 1) ≤ x3 → (s_X9_isPinned w x3) ∧ (((f_X9_isPinned w x3) = 0 → (z_R (133 + x3)) ∧ (s_X9_earliest w x3) ∧ (z_R ((f_X9_earliest w x3) + 1)) ∧ ((0 : Int) ≤ (133 + x3) ∧ (133 + x3) < 264) ∧ ∀ w16 : Nat → Int → Int, w16 = z_W w 163 (133 + x3) ((f_X9_earliest w x3) + 1) → (z_R (x2 + 1)) ∧ (z_R (x3 + 1)) ∧ z_Sem mX9_pinAll (sh.length, 0) 13 [(0, z_r 161), (2, z_i (x2 + 1)), (3, z_i (x3 + 1))] [] (sh, w16) Q) ∧ (¬ (f_X9_isPinned w x3) = 0 → (z_R (x3 + 1)) ∧ z_Sem mX9_pinAll (sh.length, 0) 13 [(0, z_r 161), (2, z_i x2), (3, z_i (x3 + 1))] [] (sh, w) Q))))) : z_Sem mX9_pinAll (sh.length, 0) 13 [(0, z_r 161), (2, z_i x2), (3, z_i x3)] [] (sh, w) Q := by
  refine z_iload_n 2 dX9_pinAll_13 rfl rfl ?_
  refine z_aload_n 0 dX9_pinAll_14 rfl rfl ?_
  refine z_getR (r := 163) zfRX9_17 dX9_pinAll_15 hh0.1 rfl ?_
  refine z_iconst dX9_pinAll_18 (by decide) ?_
  refine z_iald dX9_pinAll_19 hh0.2.2.1 (by decide) ?_
  refine z_icmp_ge (tgt := 57) dX9_pinAll_20 (by decide) (fun c1 => ?_) (fun c1 => ?_)
  · replace h := h.1 c1
    refine z_iload_n 1 dX9_pinAll_57 rfl rfl ?_
    refine z_if_ne (tgt := 68) dX9_pinAll_58 (by decide) (fun c2 => ?_) (fun c2 => ?_)
    · replace h := h.2 c2
      refine z_aload_n 0 dX9_pinAll_68 rfl rfl ?_
      refine z_bipush dX9_pinAll_69 (by decide) (by decide) ?_
      refine z_iload_n 1 dX9_pinAll_71 rfl rfl ?_
      refine z_aload_n 0 dX9_pinAll_72 rfl rfl ?_
      refine z_callV (As := []) (rest := [z_i x2, z_i 13, z_r 161]) zmX9_pinned znX9_pinned zsX9_pinned (show vwCl[9]? = some (RX9, TX9, 29) from rfl) zlRX9_165 ⟨Nat.le_of_ble_eq_true rfl, Nat.le_of_ble_eq_true rfl⟩ dX9_pinAll_73 hh0.1 rfl rfl z_a0 (Nat.le_of_ble_eq_true rfl) (Nat.le_of_ble_eq_true rfl) ⟨Nat.le_refl _, Nat.le_refl _⟩ (z_CIm h ?_)
      intro y4 w3 h
      show z_Sem mX9_pinAll (sh.length, 0) 76 [(0, z_r 161), (2, z_i x2), (3, z_i x3)] [z_i y4, z_i x2, z_i 13, z_r 161] (sh, w3) Q
      refine z_callV (As := [z_i 13, z_i x2, z_i y4]) (rest := []) zmX9_logs znX9_logs zsX9_logs (show vwCl[9]? = some (RX9, TX9, 29) from rfl) zlRX9_140 ⟨Nat.le_of_ble_eq_true rfl, Nat.le_of_ble_eq_true rfl⟩ dX9_pinAll_76 hh0.1 rfl rfl (z_ai (z_ai (z_ai z_a0))) (Nat.le_of_ble_eq_true rfl) (Nat.le_of_ble_eq_true rfl) ⟨Nat.le_refl _, Nat.le_refl _⟩ (z_CVm h ?_)
      intro w5 h
      show z_Sem mX9_pinAll (sh.length, 0) 79 [(0, z_r 161), (2, z_i x2), (3, z_i x3)] [] (sh, w5) Q
      refine z_aload_n 0 dX9_pinAll_79 rfl rfl ?_
      refine z_iload_n 1 dX9_pinAll_80 rfl rfl ?_
      refine z_callV (As := [z_i x2]) (rest := []) zmX9_done znX9_done zsX9_done (show vwCl[9]? = some (RX9, TX9, 29) from rfl) zlRX9_72 ⟨Nat.le_of_ble_eq_true rfl, Nat.le_of_ble_eq_true rfl⟩ dX9_pinAll_81 hh0.1 rfl rfl (z_ai z_a0) (Nat.le_of_ble_eq_true rfl) (Nat.le_of_ble_eq_true rfl) ⟨Nat.le_refl _, Nat.le_refl _⟩ (z_CIm h ?_)
      intro y7 w6 h
      show z_Sem mX9_pinAll (sh.length, 0) 84 [(0, z_r 161), (2, z_i x2), (3, z_i x3)] [z_i y7] (sh, w6) Q
      exact z_ret (v := some (z_i y7)) dX9_pinAll_84 ⟨rfl, Or.inl rfl⟩ rfl rfl h
    · replace h := h.1 c2
      refine z_aload_n 0 dX9_pinAll_61 rfl rfl ?_
      refine z_bipush dX9_pinAll_62 (by decide) (by decide) ?_
      refine z_callV (As := [z_i (-2)]) (rest := []) zmX9_fails znX9_fails zsX9_fails (show vwCl[9]? = some (RX9, TX9, 29) from rfl) zlRX9_137 ⟨Nat.le_of_ble_eq_true rfl, Nat.le_of_ble_eq_true rfl⟩ dX9_pinAll_64 hh0.1 rfl rfl (z_ai z_a0) (Nat.le_of_ble_eq_true rfl) (Nat.le_of_ble_eq_true rfl) ⟨Nat.le_refl _, Nat.le_refl _⟩ (z_CIm h ?_)
      intro y9 w8 h
      show z_Sem mX9_pinAll (sh.length, 0) 67 [(0, z_r 161), (2, z_i x2), (3, z_i x3)] [z_i y9] (sh, w8) Q
      exact z_ret (v := some (z_i y9)) dX9_pinAll_67 ⟨rfl, Or.inl rfl⟩ rfl rfl h
  · replace h := h.2 c1
    refine z_aload_n 0 dX9_pinAll_23 rfl rfl ?_
    refine z_iload_n 2 dX9_pinAll_24 rfl rfl ?_
    obtain ⟨q10, h⟩ := h
    refine z_callV (As := [z_i x3]) (rest := []) zmX9_isPinned znX9_isPinned zsX9_isPinned (show vwCl[9]? = some (RX9, TX9, 29) from rfl) zlRX9_103 ⟨Nat.le_of_ble_eq_true rfl, Nat.le_of_ble_eq_true rfl⟩ dX9_pinAll_25 hh0.1 rfl rfl (z_ai z_a0) (Nat.le_of_ble_eq_true rfl) (Nat.le_of_ble_eq_true rfl) ⟨Nat.le_refl _, Nat.le_refl _⟩ ?_
    refine t_X9_isPinned hh0 q10 ?_
    show z_Sem mX9_pinAll (sh.length, 0) 28 [(0, z_r 161), (2, z_i x2), (3, z_i x3)] [z_i (f_X9_isPinned w x3)] (sh, w) Q
    refine z_if_ne (tgt := 51) dX9_pinAll_28 (by decide) (fun c11 => ?_) (fun c11 => ?_)
    · replace h := h.2 c11
      obtain ⟨q12, h⟩ := h
      refine z_iinc (L' := [(3, z_i (x3 + 1)), (0, z_r 161), (2, z_i x2)]) 2 dX9_pinAll_51 rfl (by decide) rfl q12 ?_
      refine z_goto (tgt := 13) dX9_pinAll_54 (by decide) ?_
      refine z_sub (L' := [(0, z_r 161), (2, z_i x2), (3, z_i (x3 + 1))]) [1, 2, 0] rfl ?_
      exact h
    · replace h := h.1 c11
      refine z_aload_n 0 dX9_pinAll_31 rfl rfl ?_
      refine z_getR (r := 163) zfRX9_17 dX9_pinAll_32 hh0.1 rfl ?_
      refine z_sipush dX9_pinAll_35 (by decide) (by decide) ?_
      refine z_iload_n 2 dX9_pinAll_38 rfl rfl ?_
      obtain ⟨q13, h⟩ := h
      refine z_iadd dX9_pinAll_39 q13 ?_
      refine z_aload_n 0 dX9_pinAll_40 rfl rfl ?_
      refine z_iload_n 2 dX9_pinAll_41 rfl rfl ?_
      obtain ⟨q14, h⟩ := h
      refine z_callV (As := [z_i x3]) (rest := [z_i (133 + x3), z_r 163]) zmX9_earliest znX9_earliest zsX9_earliest (show vwCl[9]? = some (RX9, TX9, 29) from rfl) zlRX9_120 ⟨Nat.le_of_ble_eq_true rfl, Nat.le_of_ble_eq_true rfl⟩ dX9_pinAll_42 hh0.1 rfl rfl (z_ai z_a0) (Nat.le_of_ble_eq_true rfl) (Nat.le_of_ble_eq_true rfl) ⟨Nat.le_refl _, Nat.le_refl _⟩ ?_
      refine t_X9_earliest hh0 q14 ?_
      show z_Sem mX9_pinAll (sh.length, 0) 45 [(0, z_r 161), (2, z_i x2), (3, z_i x3)] [z_i (f_X9_earliest w x3), z_i (133 + x3), z_r 163] (sh, w) Q
      refine z_iconst dX9_pinAll_45 (by decide) ?_
      obtain ⟨q15, h⟩ := h
      refine z_iadd dX9_pinAll_46 q15 ?_
      obtain ⟨q17, h⟩ := h
      refine z_iast dX9_pinAll_47 hh0.2.2.1 q17 ?_
      refine z_genw (fun w16 hw16 => ?_)
      replace h := h w16 hw16
      obtain ⟨q18, h⟩ := h
      refine z_iinc (L' := [(2, z_i (x2 + 1)), (0, z_r 161), (3, z_i x3)]) 1 dX9_pinAll_48 rfl (by decide) rfl q18 ?_
      obtain ⟨q19, h⟩ := h
      refine z_iinc (L' := [(3, z_i (x3 + 1)), (2, z_i (x2 + 1)), (0, z_r 161)]) 2 dX9_pinAll_51 rfl (by decide) rfl q19 ?_
      refine z_goto (tgt := 13) dX9_pinAll_54 (by decide) ?_
      refine z_sub (L' := [(0, z_r 161), (2, z_i (x2 + 1)), (3, z_i (x3 + 1))]) [2, 1, 0] rfl ?_
      exact h
def f_X9_isByte (w : Nat → Int → Int) (x1 : Int) (x2 : Int) : Int := if (w 161 1) ≤ (w 161 15) then 0 else if (w 162 (w 161 15)) < x1 then 0 else if x2 < (w 162 (w 161 15)) then 0 else 1
def s_X9_isByte (w : Nat → Int → Int) (x1 : Int) (x2 : Int) : Prop := (¬ (w 161 1) ≤ (w 161 15) → ((0 : Int) ≤ (w 161 15) ∧ (w 161 15) < 900) ∧ (¬ (w 162 (w 161 15)) < x1 → ((0 : Int) ≤ (w 161 15) ∧ (w 161 15) < 900) ∧ True) ∧ True) ∧ True
set_option maxRecDepth 100000 in
theorem t_X9_isByte {sh : List z_C} {w : Nat → Int → Int} {Q : Option z_V → z_S → Prop} {x1 : Int} {x2 : Int} (hh0 : z_isMod sh 161) (hs : s_X9_isByte w x1 x2) (h : Q (some (z_i (f_X9_isByte w x1 x2))) (sh, w)) : z_Sem mX9_isByte (sh.length, 0) 0 [(0, z_r 161), (1, z_i x1), (2, z_i x2)] [] (sh, w) Q := by
  unfold f_X9_isByte at h
  unfold s_X9_isByte at hs
  refine z_aload_n 0 dX9_isByte_0 rfl rfl ?_
  refine z_getI (ki := 15) zfRX9_178 dX9_isByte_1 hh0.1 rfl rfl ?_
  refine z_aload_n 0 dX9_isByte_4 rfl rfl ?_
  refine z_getI (ki := 1) zfRX9_181 dX9_isByte_5 hh0.1 rfl rfl ?_
  obtain ⟨m3, hs⟩ := hs
  suffices hJ1 : z_Sem mX9_isByte (sh.length, 0) 42 [] [z_i (if (w 161 1) ≤ (w 161 15) then 0 else if (w 162 (w 161 15)) < x1 then 0 else if x2 < (w 162 (w 161 15)) then 0 else 1)] (sh, w) Q by
    refine z_icmp_ge (tgt := 41) dX9_isByte_8 (by decide) (fun c2 => ?_) (fun c2 => ?_)
    · skip
      refine z_iconst dX9_isByte_41 (by decide) ?_
      refine z_sub (L' := []) [] rfl ?_
      simp only [if_pos c2] at hJ1
      exact hJ1
    · skip
      have ho5 := m3 c2
      refine z_aload_n 0 dX9_isByte_11 rfl rfl ?_
      refine z_getR (r := 162) zfRX9_7 dX9_isByte_12 hh0.1 rfl ?_
      refine z_aload_n 0 dX9_isByte_15 rfl rfl ?_
      refine z_getI (ki := 15) zfRX9_178 dX9_isByte_16 hh0.1 rfl rfl ?_
      obtain ⟨q6, ho5⟩ := ho5
      refine z_bald dX9_isByte_19 hh0.2.1 q6 ?_
      refine z_iload_n 1 dX9_isByte_20 rfl rfl ?_
      obtain ⟨m9, ho5⟩ := ho5
      suffices hJ7 : z_Sem mX9_isByte (sh.length, 0) 42 [] [z_i (if (w 162 (w 161 15)) < x1 then 0 else if x2 < (w 162 (w 161 15)) then 0 else 1)] (sh, w) Q by
        refine z_icmp_lt (tgt := 41) dX9_isByte_21 (by decide) (fun c8 => ?_) (fun c8 => ?_)
        · skip
          refine z_iconst dX9_isByte_41 (by decide) ?_
          refine z_sub (L' := []) [] rfl ?_
          simp only [if_pos c8] at hJ7
          exact hJ7
        · skip
          have ho11 := m9 c8
          refine z_aload_n 0 dX9_isByte_24 rfl rfl ?_
          refine z_getR (r := 162) zfRX9_7 dX9_isByte_25 hh0.1 rfl ?_
          refine z_aload_n 0 dX9_isByte_28 rfl rfl ?_
          refine z_getI (ki := 15) zfRX9_178 dX9_isByte_29 hh0.1 rfl rfl ?_
          obtain ⟨q12, ho11⟩ := ho11
          refine z_bald dX9_isByte_32 hh0.2.1 q12 ?_
          refine z_iload_n 2 dX9_isByte_33 rfl rfl ?_
          suffices hJ13 : z_Sem mX9_isByte (sh.length, 0) 42 [] [z_i (if x2 < (w 162 (w 161 15)) then 0 else 1)] (sh, w) Q by
            refine z_icmp_gt (tgt := 41) dX9_isByte_34 (by decide) (fun c14 => ?_) (fun c14 => ?_)
            · skip
              refine z_iconst dX9_isByte_41 (by decide) ?_
              refine z_sub (L' := []) [] rfl ?_
              simp only [if_pos c14] at hJ13
              exact hJ13
            · skip
              refine z_iconst dX9_isByte_37 (by decide) ?_
              refine z_goto (tgt := 42) dX9_isByte_38 (by decide) ?_
              refine z_sub (L' := []) [] rfl ?_
              simp only [if_neg c14] at hJ13
              exact hJ13
          simp only [if_neg c8] at hJ7
          exact hJ7
      simp only [if_neg c2] at hJ1
      exact hJ1
  exact z_ret (v := some (z_i (if (w 161 1) ≤ (w 161 15) then 0 else if (w 162 (w 161 15)) < x1 then 0 else if x2 < (w 162 (w 161 15)) then 0 else 1))) dX9_isByte_42 ⟨rfl, Or.inr (Or.inl ⟨rfl, (z_it01 (by decide) (z_it01 (by decide) (z_it01 (by decide) (by decide))))⟩)⟩ rfl rfl h
set_option maxRecDepth 100000 in
theorem t_X9_takesLetters {sh : List z_C} {w : Nat → Int → Int} {Q : Option z_V → z_S → Prop}  (hh0 : z_isMod sh 161) (h : ∀ w1 : Nat → Int → Int, w1 = z_W w 161 18 0 → z_Sem mX9_takesLetters (sh.length, 0) 5 [(0, z_r 161)] [] (sh, w1) Q) : z_Sem mX9_takesLetters (sh.length, 0) 0 [(0, z_r 161)] [] (sh, w) Q := by
  refine z_aload_n 0 dX9_takesLetters_0 rfl rfl ?_
  refine z_iconst dX9_takesLetters_1 (by decide) ?_
  refine z_putI (ki := 18) zfRX9_184 dX9_takesLetters_2 hh0.1 rfl rfl ?_
  refine z_genw (fun w1 hw1 => ?_)
  replace h := h w1 hw1
  exact h
set_option maxRecDepth 100000 in
theorem t_X9_takesLetters_5 {sh : List z_C} {w : Nat → Int → Int} {Q : Option z_V → z_S → Prop}  (hh0 : z_isMod sh 161) (h : (s_X9_isByte w 97 122) ∧ (((f_X9_isByte w 97 122) = 0 → (z_R ((w 161 15) - (w 161 16))) ∧ ∀ w8 : Nat → Int → Int, w8 = z_W w 161 18 (if ((w 161 15) - (w 161 16)) ≤ 5 then w 161 18 else 0) → ∀ w9 : Nat → Int → Int, w9 = z_W w8 161 17 1 → Q none (sh, w9)) ∧ (¬ (f_X9_isByte w 97 122) = 0 → (z_R ((w 161 15) - (w 161 16))) ∧ (¬ 5 ≤ ((w 161 15) - (w 161 16)) → (z_R (32 * (w 161 18))) ∧ ((0 : Int) ≤ (w 161 15) ∧ (w 161 15) < 900) ∧ (z_R ((32 * (w 161 18)) + (w 162 (w 161 15)))) ∧ (z_R (((32 * (w 161 18)) + (w 162 (w 161 15))) - 96)) ∧ True) ∧ ∀ w20 : Nat → Int → Int, w20 = z_W w 161 18 (if 5 ≤ ((w 161 15) - (w 161 16)) then 0 else ((32 * (w 161 18)) + (w 162 (w 161 15))) - 96) → (z_R ((w20 161 15) + 1)) ∧ ∀ w22 : Nat → Int → Int, w22 = z_W w20 161 15 ((w20 161 15) + 1) → z_Sem mX9_takesLetters (sh.length, 0) 5 [(0, z_r 161)] [] (sh, w22) Q))) : z_Sem mX9_takesLetters (sh.length, 0) 5 [(0, z_r 161)] [] (sh, w) Q := by
  refine z_aload_n 0 dX9_takesLetters_5 rfl rfl ?_
  refine z_bipush dX9_takesLetters_6 (by decide) (by decide) ?_
  refine z_bipush dX9_takesLetters_8 (by decide) (by decide) ?_
  obtain ⟨q1, h⟩ := h
  refine z_callV (As := [z_i 97, z_i 122]) (rest := []) zmX9_isByte znX9_isByte zsX9_isByte (show vwCl[9]? = some (RX9, TX9, 29) from rfl) zlRX9_187 ⟨Nat.le_of_ble_eq_true rfl, Nat.le_of_ble_eq_true rfl⟩ dX9_takesLetters_10 hh0.1 rfl rfl (z_ai (z_ai z_a0)) (Nat.le_of_ble_eq_true rfl) (Nat.le_of_ble_eq_true rfl) ⟨Nat.le_refl _, Nat.le_refl _⟩ ?_
  refine t_X9_isByte hh0 q1 ?_
  show z_Sem mX9_takesLetters (sh.length, 0) 13 [(0, z_r 161)] [z_i (f_X9_isByte w 97 122)] (sh, w) Q
  refine z_if_eq (tgt := 70) dX9_takesLetters_13 (by decide) (fun c2 => ?_) (fun c2 => ?_)
  · replace h := h.1 c2
    refine z_aload_n 0 dX9_takesLetters_70 rfl rfl ?_
    refine z_aload_n 0 dX9_takesLetters_71 rfl rfl ?_
    refine z_getI (ki := 15) zfRX9_178 dX9_takesLetters_72 hh0.1 rfl rfl ?_
    refine z_aload_n 0 dX9_takesLetters_75 rfl rfl ?_
    refine z_getI (ki := 16) zfRX9_190 dX9_takesLetters_76 hh0.1 rfl rfl ?_
    obtain ⟨q3, h⟩ := h
    refine z_isub dX9_takesLetters_79 q3 ?_
    refine z_iconst dX9_takesLetters_80 (by decide) ?_
    suffices hJ4 : z_Sem mX9_takesLetters (sh.length, 0) 92 [(0, z_r 161)] [z_i (if ((w 161 15) - (w 161 16)) ≤ 5 then w 161 18 else 0), z_r 161] (sh, w) Q by
      refine z_icmp_le (tgt := 88) dX9_takesLetters_81 (by decide) (fun c5 => ?_) (fun c5 => ?_)
      · skip
        refine z_aload_n 0 dX9_takesLetters_88 rfl rfl ?_
        refine z_getI (ki := 18) zfRX9_184 dX9_takesLetters_89 hh0.1 rfl rfl ?_
        simp only [if_pos c5] at hJ4
        exact hJ4
      · skip
        refine z_iconst dX9_takesLetters_84 (by decide) ?_
        refine z_goto (tgt := 92) dX9_takesLetters_85 (by decide) ?_
        simp only [if_neg c5] at hJ4
        exact hJ4
    refine z_putI (ki := 18) zfRX9_184 dX9_takesLetters_92 hh0.1 rfl rfl ?_
    refine z_genw (fun w8 hw8 => ?_)
    replace h := h w8 hw8
    refine z_aload_n 0 dX9_takesLetters_95 rfl rfl ?_
    refine z_iconst dX9_takesLetters_96 (by decide) ?_
    refine z_putI (ki := 17) zfRX9_193 dX9_takesLetters_97 hh0.1 rfl rfl ?_
    refine z_genw (fun w9 hw9 => ?_)
    replace h := h w9 hw9
    exact z_ret (v := none) dX9_takesLetters_100 ⟨rfl, rfl⟩ rfl rfl h
  · replace h := h.2 c2
    refine z_aload_n 0 dX9_takesLetters_16 rfl rfl ?_
    refine z_aload_n 0 dX9_takesLetters_17 rfl rfl ?_
    refine z_getI (ki := 15) zfRX9_178 dX9_takesLetters_18 hh0.1 rfl rfl ?_
    refine z_aload_n 0 dX9_takesLetters_21 rfl rfl ?_
    refine z_getI (ki := 16) zfRX9_190 dX9_takesLetters_22 hh0.1 rfl rfl ?_
    obtain ⟨q10, h⟩ := h
    refine z_isub dX9_takesLetters_25 q10 ?_
    refine z_iconst dX9_takesLetters_26 (by decide) ?_
    obtain ⟨m13, h⟩ := h
    suffices hJ11 : z_Sem mX9_takesLetters (sh.length, 0) 54 [(0, z_r 161)] [z_i (if 5 ≤ ((w 161 15) - (w 161 16)) then 0 else ((32 * (w 161 18)) + (w 162 (w 161 15))) - 96), z_r 161] (sh, w) Q by
      refine z_icmp_ge (tgt := 53) dX9_takesLetters_27 (by decide) (fun c12 => ?_) (fun c12 => ?_)
      · skip
        refine z_iconst dX9_takesLetters_53 (by decide) ?_
        simp only [if_pos c12] at hJ11
        exact hJ11
      · skip
        have ho15 := m13 c12
        refine z_bipush dX9_takesLetters_30 (by decide) (by decide) ?_
        refine z_aload_n 0 dX9_takesLetters_32 rfl rfl ?_
        refine z_getI (ki := 18) zfRX9_184 dX9_takesLetters_33 hh0.1 rfl rfl ?_
        obtain ⟨q16, ho15⟩ := ho15
        refine z_imul dX9_takesLetters_36 q16 ?_
        refine z_aload_n 0 dX9_takesLetters_37 rfl rfl ?_
        refine z_getR (r := 162) zfRX9_7 dX9_takesLetters_38 hh0.1 rfl ?_
        refine z_aload_n 0 dX9_takesLetters_41 rfl rfl ?_
        refine z_getI (ki := 15) zfRX9_178 dX9_takesLetters_42 hh0.1 rfl rfl ?_
        obtain ⟨q17, ho15⟩ := ho15
        refine z_bald dX9_takesLetters_45 hh0.2.1 q17 ?_
        obtain ⟨q18, ho15⟩ := ho15
        refine z_iadd dX9_takesLetters_46 q18 ?_
        refine z_bipush dX9_takesLetters_47 (by decide) (by decide) ?_
        obtain ⟨q19, ho15⟩ := ho15
        refine z_isub dX9_takesLetters_49 q19 ?_
        refine z_goto (tgt := 54) dX9_takesLetters_50 (by decide) ?_
        simp only [if_neg c12] at hJ11
        exact hJ11
    refine z_putI (ki := 18) zfRX9_184 dX9_takesLetters_54 hh0.1 rfl rfl ?_
    refine z_genw (fun w20 hw20 => ?_)
    replace h := h w20 hw20
    refine z_aload_n 0 dX9_takesLetters_57 rfl rfl ?_
    refine z_dup dX9_takesLetters_58 rfl ?_
    refine z_getI (ki := 15) zfRX9_178 dX9_takesLetters_59 hh0.1 rfl rfl ?_
    refine z_iconst dX9_takesLetters_62 (by decide) ?_
    obtain ⟨q21, h⟩ := h
    refine z_iadd dX9_takesLetters_63 q21 ?_
    refine z_putI (ki := 15) zfRX9_178 dX9_takesLetters_64 hh0.1 rfl rfl ?_
    refine z_genw (fun w22 hw22 => ?_)
    replace h := h w22 hw22
    refine z_goto (tgt := 5) dX9_takesLetters_67 (by decide) ?_
    exact h
set_option maxRecDepth 100000 in
theorem t_X9_takesDigits {sh : List z_C} {w : Nat → Int → Int} {Q : Option z_V → z_S → Prop}  (hh0 : z_isMod sh 161) (h : ∀ w1 : Nat → Int → Int, w1 = z_W w 161 19 0 → z_Sem mX9_takesDigits (sh.length, 0) 5 [(0, z_r 161)] [] (sh, w1) Q) : z_Sem mX9_takesDigits (sh.length, 0) 0 [(0, z_r 161)] [] (sh, w) Q := by
  refine z_aload_n 0 dX9_takesDigits_0 rfl rfl ?_
  refine z_iconst dX9_takesDigits_1 (by decide) ?_
  refine z_putI (ki := 19) zfRX9_196 dX9_takesDigits_2 hh0.1 rfl rfl ?_
  refine z_genw (fun w1 hw1 => ?_)
  replace h := h w1 hw1
  exact h
set_option maxRecDepth 100000 in
theorem t_X9_takesDigits_5 {sh : List z_C} {w : Nat → Int → Int} {Q : Option z_V → z_S → Prop}  (hh0 : z_isMod sh 161) (h : (s_X9_isByte w 48 57) ∧ (((f_X9_isByte w 48 57) = 0 → (z_R ((w 161 15) - (w 161 16))) ∧ ∀ w8 : Nat → Int → Int, w8 = z_W w 161 17 (if ((w 161 15) - (w 161 16)) ≤ 3 then 2 else 4) → Q none (sh, w8)) ∧ (¬ (f_X9_isByte w 48 57) = 0 → (z_R ((w 161 15) - (w 161 16))) ∧ (¬ 3 ≤ ((w 161 15) - (w 161 16)) → (z_R (10 * (w 161 19))) ∧ ((0 : Int) ≤ (w 161 15) ∧ (w 161 15) < 900) ∧ (z_R ((10 * (w 161 19)) + (w 162 (w 161 15)))) ∧ (z_R (((10 * (w 161 19)) + (w 162 (w 161 15))) - 48)) ∧ True) ∧ ∀ w19 : Nat → Int → Int, w19 = z_W w 161 19 (if 3 ≤ ((w 161 15) - (w 161 16)) then w 161 19 else ((10 * (w 161 19)) + (w 162 (w 161 15))) - 48) → (z_R ((w19 161 15) + 1)) ∧ ∀ w21 : Nat → Int → Int, w21 = z_W w19 161 15 ((w19 161 15) + 1) → z_Sem mX9_takesDigits (sh.length, 0) 5 [(0, z_r 161)] [] (sh, w21) Q))) : z_Sem mX9_takesDigits (sh.length, 0) 5 [(0, z_r 161)] [] (sh, w) Q := by
  refine z_aload_n 0 dX9_takesDigits_5 rfl rfl ?_
  refine z_bipush dX9_takesDigits_6 (by decide) (by decide) ?_
  refine z_bipush dX9_takesDigits_8 (by decide) (by decide) ?_
  obtain ⟨q1, h⟩ := h
  refine z_callV (As := [z_i 48, z_i 57]) (rest := []) zmX9_isByte znX9_isByte zsX9_isByte (show vwCl[9]? = some (RX9, TX9, 29) from rfl) zlRX9_187 ⟨Nat.le_of_ble_eq_true rfl, Nat.le_of_ble_eq_true rfl⟩ dX9_takesDigits_10 hh0.1 rfl rfl (z_ai (z_ai z_a0)) (Nat.le_of_ble_eq_true rfl) (Nat.le_of_ble_eq_true rfl) ⟨Nat.le_refl _, Nat.le_refl _⟩ ?_
  refine t_X9_isByte hh0 q1 ?_
  show z_Sem mX9_takesDigits (sh.length, 0) 13 [(0, z_r 161)] [z_i (f_X9_isByte w 48 57)] (sh, w) Q
  refine z_if_eq (tgt := 73) dX9_takesDigits_13 (by decide) (fun c2 => ?_) (fun c2 => ?_)
  · replace h := h.1 c2
    refine z_aload_n 0 dX9_takesDigits_73 rfl rfl ?_
    refine z_aload_n 0 dX9_takesDigits_74 rfl rfl ?_
    refine z_getI (ki := 15) zfRX9_178 dX9_takesDigits_75 hh0.1 rfl rfl ?_
    refine z_aload_n 0 dX9_takesDigits_78 rfl rfl ?_
    refine z_getI (ki := 16) zfRX9_190 dX9_takesDigits_79 hh0.1 rfl rfl ?_
    obtain ⟨q3, h⟩ := h
    refine z_isub dX9_takesDigits_82 q3 ?_
    refine z_iconst dX9_takesDigits_83 (by decide) ?_
    suffices hJ4 : z_Sem mX9_takesDigits (sh.length, 0) 92 [] [z_i (if ((w 161 15) - (w 161 16)) ≤ 3 then 2 else 4), z_r 161] (sh, w) Q by
      refine z_icmp_le (tgt := 91) dX9_takesDigits_84 (by decide) (fun c5 => ?_) (fun c5 => ?_)
      · skip
        refine z_iconst dX9_takesDigits_91 (by decide) ?_
        refine z_sub (L' := []) [] rfl ?_
        simp only [if_pos c5] at hJ4
        exact hJ4
      · skip
        refine z_iconst dX9_takesDigits_87 (by decide) ?_
        refine z_goto (tgt := 92) dX9_takesDigits_88 (by decide) ?_
        refine z_sub (L' := []) [] rfl ?_
        simp only [if_neg c5] at hJ4
        exact hJ4
    refine z_putI (ki := 17) zfRX9_193 dX9_takesDigits_92 hh0.1 rfl rfl ?_
    refine z_genw (fun w8 hw8 => ?_)
    replace h := h w8 hw8
    exact z_ret (v := none) dX9_takesDigits_95 ⟨rfl, rfl⟩ rfl rfl h
  · replace h := h.2 c2
    refine z_aload_n 0 dX9_takesDigits_16 rfl rfl ?_
    refine z_aload_n 0 dX9_takesDigits_17 rfl rfl ?_
    refine z_getI (ki := 15) zfRX9_178 dX9_takesDigits_18 hh0.1 rfl rfl ?_
    refine z_aload_n 0 dX9_takesDigits_21 rfl rfl ?_
    refine z_getI (ki := 16) zfRX9_190 dX9_takesDigits_22 hh0.1 rfl rfl ?_
    obtain ⟨q9, h⟩ := h
    refine z_isub dX9_takesDigits_25 q9 ?_
    refine z_iconst dX9_takesDigits_26 (by decide) ?_
    obtain ⟨m12, h⟩ := h
    suffices hJ10 : z_Sem mX9_takesDigits (sh.length, 0) 57 [(0, z_r 161)] [z_i (if 3 ≤ ((w 161 15) - (w 161 16)) then w 161 19 else ((10 * (w 161 19)) + (w 162 (w 161 15))) - 48), z_r 161] (sh, w) Q by
      refine z_icmp_ge (tgt := 53) dX9_takesDigits_27 (by decide) (fun c11 => ?_) (fun c11 => ?_)
      · skip
        refine z_aload_n 0 dX9_takesDigits_53 rfl rfl ?_
        refine z_getI (ki := 19) zfRX9_196 dX9_takesDigits_54 hh0.1 rfl rfl ?_
        simp only [if_pos c11] at hJ10
        exact hJ10
      · skip
        have ho14 := m12 c11
        refine z_bipush dX9_takesDigits_30 (by decide) (by decide) ?_
        refine z_aload_n 0 dX9_takesDigits_32 rfl rfl ?_
        refine z_getI (ki := 19) zfRX9_196 dX9_takesDigits_33 hh0.1 rfl rfl ?_
        obtain ⟨q15, ho14⟩ := ho14
        refine z_imul dX9_takesDigits_36 q15 ?_
        refine z_aload_n 0 dX9_takesDigits_37 rfl rfl ?_
        refine z_getR (r := 162) zfRX9_7 dX9_takesDigits_38 hh0.1 rfl ?_
        refine z_aload_n 0 dX9_takesDigits_41 rfl rfl ?_
        refine z_getI (ki := 15) zfRX9_178 dX9_takesDigits_42 hh0.1 rfl rfl ?_
        obtain ⟨q16, ho14⟩ := ho14
        refine z_bald dX9_takesDigits_45 hh0.2.1 q16 ?_
        obtain ⟨q17, ho14⟩ := ho14
        refine z_iadd dX9_takesDigits_46 q17 ?_
        refine z_bipush dX9_takesDigits_47 (by decide) (by decide) ?_
        obtain ⟨q18, ho14⟩ := ho14
        refine z_isub dX9_takesDigits_49 q18 ?_
        refine z_goto (tgt := 57) dX9_takesDigits_50 (by decide) ?_
        simp only [if_neg c11] at hJ10
        exact hJ10
    refine z_putI (ki := 19) zfRX9_196 dX9_takesDigits_57 hh0.1 rfl rfl ?_
    refine z_genw (fun w19 hw19 => ?_)
    replace h := h w19 hw19
    refine z_aload_n 0 dX9_takesDigits_60 rfl rfl ?_
    refine z_dup dX9_takesDigits_61 rfl ?_
    refine z_getI (ki := 15) zfRX9_178 dX9_takesDigits_62 hh0.1 rfl rfl ?_
    refine z_iconst dX9_takesDigits_65 (by decide) ?_
    obtain ⟨q20, h⟩ := h
    refine z_iadd dX9_takesDigits_66 q20 ?_
    refine z_putI (ki := 15) zfRX9_178 dX9_takesDigits_67 hh0.1 rfl rfl ?_
    refine z_genw (fun w21 hw21 => ?_)
    replace h := h w21 hw21
    refine z_goto (tgt := 5) dX9_takesDigits_70 (by decide) ?_
    exact h
set_option maxRecDepth 100000 in
theorem t_X9_nextToken {sh : List z_C} {w : Nat → Int → Int} {Q : Option z_V → z_S → Prop}  (hh0 : z_isMod sh 161) (h : (((w 161 1) ≤ (w 161 15) → ∀ w2 : Nat → Int → Int, w2 = z_W w 161 16 (w 161 15) → (((w2 161 15) = (w2 161 1) → ∀ w18 : Nat → Int → Int, w18 = z_W w2 161 17 0 → Q none (sh, w18)) ∧ (¬ (w2 161 15) = (w2 161 1) → (s_X9_isByte w2 97 122) ∧ (((f_X9_isByte w2 97 122) = 0 → (s_X9_isByte w2 48 57) ∧ (((f_X9_isByte w2 48 57) = 0 → ((0 : Int) ≤ (w2 161 15) ∧ (w2 161 15) < 900) ∧ ∀ w13 : Nat → Int → Int, w13 = z_W w2 161 17 (if (w2 162 (w2 161 15)) = 59 then 3 else 4) → (z_R ((w13 161 15) + 1)) ∧ ∀ w15 : Nat → Int → Int, w15 = z_W w13 161 15 ((w13 161 15) + 1) → Q none (sh, w15)) ∧ (¬ (f_X9_isByte w2 48 57) = 0 → z_CV mX9_takesDigits [z_r 161] sh w2 (fun w16 => Q none (sh, w16))))) ∧ (¬ (f_X9_isByte w2 97 122) = 0 → z_CV mX9_takesLetters [z_r 161] sh w2 (fun w17 => Q none (sh, w17))))))) ∧ (¬ (w 161 1) ≤ (w 161 15) → ((0 : Int) ≤ (w 161 15) ∧ (w 161 15) < 900) ∧ (((w 162 (w 161 15)) = 32 → (z_R ((w 161 15) + 1)) ∧ ∀ w22 : Nat → Int → Int, w22 = z_W w 161 15 ((w 161 15) + 1) → z_Sem mX9_nextToken (sh.length, 0) 0 [(0, z_r 161)] [] (sh, w22) Q) ∧ (¬ (w 162 (w 161 15)) = 32 → ((0 : Int) ≤ (w 161 15) ∧ (w 161 15) < 900) ∧ (((w 162 (w 161 15)) = 10 → (z_R ((w 161 15) + 1)) ∧ ∀ w43 : Nat → Int → Int, w43 = z_W w 161 15 ((w 161 15) + 1) → z_Sem mX9_nextToken (sh.length, 0) 0 [(0, z_r 161)] [] (sh, w43) Q) ∧ (¬ (w 162 (w 161 15)) = 10 → ∀ w25 : Nat → Int → Int, w25 = z_W w 161 16 (w 161 15) → (((w25 161 15) = (w25 161 1) → ∀ w41 : Nat → Int → Int, w41 = z_W w25 161 17 0 → Q none (sh, w41)) ∧ (¬ (w25 161 15) = (w25 161 1) → (s_X9_isByte w25 97 122) ∧ (((f_X9_isByte w25 97 122) = 0 → (s_X9_isByte w25 48 57) ∧ (((f_X9_isByte w25 48 57) = 0 → ((0 : Int) ≤ (w25 161 15) ∧ (w25 161 15) < 900) ∧ ∀ w36 : Nat → Int → Int, w36 = z_W w25 161 17 (if (w25 162 (w25 161 15)) = 59 then 3 else 4) → (z_R ((w36 161 15) + 1)) ∧ ∀ w38 : Nat → Int → Int, w38 = z_W w36 161 15 ((w36 161 15) + 1) → Q none (sh, w38)) ∧ (¬ (f_X9_isByte w25 48 57) = 0 → z_CV mX9_takesDigits [z_r 161] sh w25 (fun w39 => Q none (sh, w39))))) ∧ (¬ (f_X9_isByte w25 97 122) = 0 → z_CV mX9_takesLetters [z_r 161] sh w25 (fun w40 => Q none (sh, w40))))))))))))) : z_Sem mX9_nextToken (sh.length, 0) 0 [(0, z_r 161)] [] (sh, w) Q := by
  refine z_aload_n 0 dX9_nextToken_0 rfl rfl ?_
  refine z_getI (ki := 15) zfRX9_178 dX9_nextToken_1 hh0.1 rfl rfl ?_
  refine z_aload_n 0 dX9_nextToken_4 rfl rfl ?_
  refine z_getI (ki := 1) zfRX9_181 dX9_nextToken_5 hh0.1 rfl rfl ?_
  refine z_icmp_ge (tgt := 52) dX9_nextToken_8 (by decide) (fun c1 => ?_) (fun c1 => ?_)
  · replace h := h.1 c1
    refine z_aload_n 0 dX9_nextToken_52 rfl rfl ?_
    refine z_aload_n 0 dX9_nextToken_53 rfl rfl ?_
    refine z_getI (ki := 15) zfRX9_178 dX9_nextToken_54 hh0.1 rfl rfl ?_
    refine z_putI (ki := 16) zfRX9_190 dX9_nextToken_57 hh0.1 rfl rfl ?_
    refine z_genw (fun w2 hw2 => ?_)
    replace h := h w2 hw2
    refine z_aload_n 0 dX9_nextToken_60 rfl rfl ?_
    refine z_getI (ki := 15) zfRX9_178 dX9_nextToken_61 hh0.1 rfl rfl ?_
    refine z_aload_n 0 dX9_nextToken_64 rfl rfl ?_
    refine z_getI (ki := 1) zfRX9_181 dX9_nextToken_65 hh0.1 rfl rfl ?_
    refine z_icmp_ne (tgt := 79) dX9_nextToken_68 (by decide) (fun c3 => ?_) (fun c3 => ?_)
    · replace h := h.2 c3
      refine z_aload_n 0 dX9_nextToken_79 rfl rfl ?_
      refine z_bipush dX9_nextToken_80 (by decide) (by decide) ?_
      refine z_bipush dX9_nextToken_82 (by decide) (by decide) ?_
      obtain ⟨q4, h⟩ := h
      refine z_callV (As := [z_i 97, z_i 122]) (rest := []) zmX9_isByte znX9_isByte zsX9_isByte (show vwCl[9]? = some (RX9, TX9, 29) from rfl) zlRX9_187 ⟨Nat.le_of_ble_eq_true rfl, Nat.le_of_ble_eq_true rfl⟩ dX9_nextToken_84 hh0.1 rfl rfl (z_ai (z_ai z_a0)) (Nat.le_of_ble_eq_true rfl) (Nat.le_of_ble_eq_true rfl) ⟨Nat.le_refl _, Nat.le_refl _⟩ ?_
      refine t_X9_isByte hh0 q4 ?_
      show z_Sem mX9_nextToken (sh.length, 0) 87 [(0, z_r 161)] [z_i (f_X9_isByte w2 97 122)] (sh, w2) Q
      refine z_if_eq (tgt := 97) dX9_nextToken_87 (by decide) (fun c5 => ?_) (fun c5 => ?_)
      · replace h := h.1 c5
        refine z_aload_n 0 dX9_nextToken_97 rfl rfl ?_
        refine z_bipush dX9_nextToken_98 (by decide) (by decide) ?_
        refine z_bipush dX9_nextToken_100 (by decide) (by decide) ?_
        obtain ⟨q6, h⟩ := h
        refine z_callV (As := [z_i 48, z_i 57]) (rest := []) zmX9_isByte znX9_isByte zsX9_isByte (show vwCl[9]? = some (RX9, TX9, 29) from rfl) zlRX9_187 ⟨Nat.le_of_ble_eq_true rfl, Nat.le_of_ble_eq_true rfl⟩ dX9_nextToken_102 hh0.1 rfl rfl (z_ai (z_ai z_a0)) (Nat.le_of_ble_eq_true rfl) (Nat.le_of_ble_eq_true rfl) ⟨Nat.le_refl _, Nat.le_refl _⟩ ?_
        refine t_X9_isByte hh0 q6 ?_
        show z_Sem mX9_nextToken (sh.length, 0) 105 [(0, z_r 161)] [z_i (f_X9_isByte w2 48 57)] (sh, w2) Q
        refine z_if_eq (tgt := 115) dX9_nextToken_105 (by decide) (fun c7 => ?_) (fun c7 => ?_)
        · replace h := h.1 c7
          refine z_aload_n 0 dX9_nextToken_115 rfl rfl ?_
          refine z_aload_n 0 dX9_nextToken_116 rfl rfl ?_
          refine z_getR (r := 162) zfRX9_7 dX9_nextToken_117 hh0.1 rfl ?_
          refine z_aload_n 0 dX9_nextToken_120 rfl rfl ?_
          refine z_getI (ki := 15) zfRX9_178 dX9_nextToken_121 hh0.1 rfl rfl ?_
          obtain ⟨q8, h⟩ := h
          refine z_bald dX9_nextToken_124 hh0.2.1 q8 ?_
          refine z_bipush dX9_nextToken_125 (by decide) (by decide) ?_
          suffices hJ9 : z_Sem mX9_nextToken (sh.length, 0) 135 [(0, z_r 161)] [z_i (if (w2 162 (w2 161 15)) = 59 then 3 else 4), z_r 161] (sh, w2) Q by
            refine z_icmp_ne (tgt := 134) dX9_nextToken_127 (by decide) (fun c10 => ?_) (fun c10 => ?_)
            · skip
              refine z_iconst dX9_nextToken_134 (by decide) ?_
              simp only [if_neg c10] at hJ9
              exact hJ9
            · skip
              refine z_iconst dX9_nextToken_130 (by decide) ?_
              refine z_goto (tgt := 135) dX9_nextToken_131 (by decide) ?_
              simp only [if_pos c10] at hJ9
              exact hJ9
          refine z_putI (ki := 17) zfRX9_193 dX9_nextToken_135 hh0.1 rfl rfl ?_
          refine z_genw (fun w13 hw13 => ?_)
          replace h := h w13 hw13
          refine z_aload_n 0 dX9_nextToken_138 rfl rfl ?_
          refine z_dup dX9_nextToken_139 rfl ?_
          refine z_getI (ki := 15) zfRX9_178 dX9_nextToken_140 hh0.1 rfl rfl ?_
          refine z_iconst dX9_nextToken_143 (by decide) ?_
          obtain ⟨q14, h⟩ := h
          refine z_iadd dX9_nextToken_144 q14 ?_
          refine z_putI (ki := 15) zfRX9_178 dX9_nextToken_145 hh0.1 rfl rfl ?_
          refine z_genw (fun w15 hw15 => ?_)
          replace h := h w15 hw15
          exact z_ret (v := none) dX9_nextToken_148 ⟨rfl, rfl⟩ rfl rfl h
        · replace h := h.2 c7
          refine z_aload_n 0 dX9_nextToken_108 rfl rfl ?_
          refine z_callV (As := []) (rest := []) zmX9_takesDigits znX9_takesDigits zsX9_takesDigits (show vwCl[9]? = some (RX9, TX9, 29) from rfl) zlRX9_202 ⟨Nat.le_of_ble_eq_true rfl, Nat.le_of_ble_eq_true rfl⟩ dX9_nextToken_109 hh0.1 rfl rfl z_a0 (Nat.le_of_ble_eq_true rfl) (Nat.le_of_ble_eq_true rfl) ⟨Nat.le_refl _, Nat.le_refl _⟩ (z_CVm h ?_)
          intro w16 h
          show z_Sem mX9_nextToken (sh.length, 0) 112 [(0, z_r 161)] [] (sh, w16) Q
          refine z_goto (tgt := 148) dX9_nextToken_112 (by decide) ?_
          exact z_ret (v := none) dX9_nextToken_148 ⟨rfl, rfl⟩ rfl rfl h
      · replace h := h.2 c5
        refine z_aload_n 0 dX9_nextToken_90 rfl rfl ?_
        refine z_callV (As := []) (rest := []) zmX9_takesLetters znX9_takesLetters zsX9_takesLetters (show vwCl[9]? = some (RX9, TX9, 29) from rfl) zlRX9_199 ⟨Nat.le_of_ble_eq_true rfl, Nat.le_of_ble_eq_true rfl⟩ dX9_nextToken_91 hh0.1 rfl rfl z_a0 (Nat.le_of_ble_eq_true rfl) (Nat.le_of_ble_eq_true rfl) ⟨Nat.le_refl _, Nat.le_refl _⟩ (z_CVm h ?_)
        intro w17 h
        show z_Sem mX9_nextToken (sh.length, 0) 94 [(0, z_r 161)] [] (sh, w17) Q
        refine z_goto (tgt := 148) dX9_nextToken_94 (by decide) ?_
        exact z_ret (v := none) dX9_nextToken_148 ⟨rfl, rfl⟩ rfl rfl h
    · replace h := h.1 c3
      refine z_aload_n 0 dX9_nextToken_71 rfl rfl ?_
      refine z_iconst dX9_nextToken_72 (by decide) ?_
      refine z_putI (ki := 17) zfRX9_193 dX9_nextToken_73 hh0.1 rfl rfl ?_
      refine z_genw (fun w18 hw18 => ?_)
      replace h := h w18 hw18
      refine z_goto (tgt := 148) dX9_nextToken_76 (by decide) ?_
      exact z_ret (v := none) dX9_nextToken_148 ⟨rfl, rfl⟩ rfl rfl h
  · replace h := h.2 c1
    refine z_aload_n 0 dX9_nextToken_11 rfl rfl ?_
    refine z_getR (r := 162) zfRX9_7 dX9_nextToken_12 hh0.1 rfl ?_
    refine z_aload_n 0 dX9_nextToken_15 rfl rfl ?_
    refine z_getI (ki := 15) zfRX9_178 dX9_nextToken_16 hh0.1 rfl rfl ?_
    obtain ⟨q19, h⟩ := h
    refine z_bald dX9_nextToken_19 hh0.2.1 q19 ?_
    refine z_bipush dX9_nextToken_20 (by decide) (by decide) ?_
    refine z_icmp_eq (tgt := 39) dX9_nextToken_22 (by decide) (fun c20 => ?_) (fun c20 => ?_)
    · replace h := h.1 c20
      refine z_aload_n 0 dX9_nextToken_39 rfl rfl ?_
      refine z_dup dX9_nextToken_40 rfl ?_
      refine z_getI (ki := 15) zfRX9_178 dX9_nextToken_41 hh0.1 rfl rfl ?_
      refine z_iconst dX9_nextToken_44 (by decide) ?_
      obtain ⟨q21, h⟩ := h
      refine z_iadd dX9_nextToken_45 q21 ?_
      refine z_putI (ki := 15) zfRX9_178 dX9_nextToken_46 hh0.1 rfl rfl ?_
      refine z_genw (fun w22 hw22 => ?_)
      replace h := h w22 hw22
      refine z_goto (tgt := 0) dX9_nextToken_49 (by decide) ?_
      exact h
    · replace h := h.2 c20
      refine z_aload_n 0 dX9_nextToken_25 rfl rfl ?_
      refine z_getR (r := 162) zfRX9_7 dX9_nextToken_26 hh0.1 rfl ?_
      refine z_aload_n 0 dX9_nextToken_29 rfl rfl ?_
      refine z_getI (ki := 15) zfRX9_178 dX9_nextToken_30 hh0.1 rfl rfl ?_
      obtain ⟨q23, h⟩ := h
      refine z_bald dX9_nextToken_33 hh0.2.1 q23 ?_
      refine z_bipush dX9_nextToken_34 (by decide) (by decide) ?_
      refine z_icmp_ne (tgt := 52) dX9_nextToken_36 (by decide) (fun c24 => ?_) (fun c24 => ?_)
      · replace h := h.2 c24
        refine z_aload_n 0 dX9_nextToken_52 rfl rfl ?_
        refine z_aload_n 0 dX9_nextToken_53 rfl rfl ?_
        refine z_getI (ki := 15) zfRX9_178 dX9_nextToken_54 hh0.1 rfl rfl ?_
        refine z_putI (ki := 16) zfRX9_190 dX9_nextToken_57 hh0.1 rfl rfl ?_
        refine z_genw (fun w25 hw25 => ?_)
        replace h := h w25 hw25
        refine z_aload_n 0 dX9_nextToken_60 rfl rfl ?_
        refine z_getI (ki := 15) zfRX9_178 dX9_nextToken_61 hh0.1 rfl rfl ?_
        refine z_aload_n 0 dX9_nextToken_64 rfl rfl ?_
        refine z_getI (ki := 1) zfRX9_181 dX9_nextToken_65 hh0.1 rfl rfl ?_
        refine z_icmp_ne (tgt := 79) dX9_nextToken_68 (by decide) (fun c26 => ?_) (fun c26 => ?_)
        · replace h := h.2 c26
          refine z_aload_n 0 dX9_nextToken_79 rfl rfl ?_
          refine z_bipush dX9_nextToken_80 (by decide) (by decide) ?_
          refine z_bipush dX9_nextToken_82 (by decide) (by decide) ?_
          obtain ⟨q27, h⟩ := h
          refine z_callV (As := [z_i 97, z_i 122]) (rest := []) zmX9_isByte znX9_isByte zsX9_isByte (show vwCl[9]? = some (RX9, TX9, 29) from rfl) zlRX9_187 ⟨Nat.le_of_ble_eq_true rfl, Nat.le_of_ble_eq_true rfl⟩ dX9_nextToken_84 hh0.1 rfl rfl (z_ai (z_ai z_a0)) (Nat.le_of_ble_eq_true rfl) (Nat.le_of_ble_eq_true rfl) ⟨Nat.le_refl _, Nat.le_refl _⟩ ?_
          refine t_X9_isByte hh0 q27 ?_
          show z_Sem mX9_nextToken (sh.length, 0) 87 [(0, z_r 161)] [z_i (f_X9_isByte w25 97 122)] (sh, w25) Q
          refine z_if_eq (tgt := 97) dX9_nextToken_87 (by decide) (fun c28 => ?_) (fun c28 => ?_)
          · replace h := h.1 c28
            refine z_aload_n 0 dX9_nextToken_97 rfl rfl ?_
            refine z_bipush dX9_nextToken_98 (by decide) (by decide) ?_
            refine z_bipush dX9_nextToken_100 (by decide) (by decide) ?_
            obtain ⟨q29, h⟩ := h
            refine z_callV (As := [z_i 48, z_i 57]) (rest := []) zmX9_isByte znX9_isByte zsX9_isByte (show vwCl[9]? = some (RX9, TX9, 29) from rfl) zlRX9_187 ⟨Nat.le_of_ble_eq_true rfl, Nat.le_of_ble_eq_true rfl⟩ dX9_nextToken_102 hh0.1 rfl rfl (z_ai (z_ai z_a0)) (Nat.le_of_ble_eq_true rfl) (Nat.le_of_ble_eq_true rfl) ⟨Nat.le_refl _, Nat.le_refl _⟩ ?_
            refine t_X9_isByte hh0 q29 ?_
            show z_Sem mX9_nextToken (sh.length, 0) 105 [(0, z_r 161)] [z_i (f_X9_isByte w25 48 57)] (sh, w25) Q
            refine z_if_eq (tgt := 115) dX9_nextToken_105 (by decide) (fun c30 => ?_) (fun c30 => ?_)
            · replace h := h.1 c30
              refine z_aload_n 0 dX9_nextToken_115 rfl rfl ?_
              refine z_aload_n 0 dX9_nextToken_116 rfl rfl ?_
              refine z_getR (r := 162) zfRX9_7 dX9_nextToken_117 hh0.1 rfl ?_
              refine z_aload_n 0 dX9_nextToken_120 rfl rfl ?_
              refine z_getI (ki := 15) zfRX9_178 dX9_nextToken_121 hh0.1 rfl rfl ?_
              obtain ⟨q31, h⟩ := h
              refine z_bald dX9_nextToken_124 hh0.2.1 q31 ?_
              refine z_bipush dX9_nextToken_125 (by decide) (by decide) ?_
              suffices hJ32 : z_Sem mX9_nextToken (sh.length, 0) 135 [(0, z_r 161)] [z_i (if (w25 162 (w25 161 15)) = 59 then 3 else 4), z_r 161] (sh, w25) Q by
                refine z_icmp_ne (tgt := 134) dX9_nextToken_127 (by decide) (fun c33 => ?_) (fun c33 => ?_)
                · skip
                  refine z_iconst dX9_nextToken_134 (by decide) ?_
                  simp only [if_neg c33] at hJ32
                  exact hJ32
                · skip
                  refine z_iconst dX9_nextToken_130 (by decide) ?_
                  refine z_goto (tgt := 135) dX9_nextToken_131 (by decide) ?_
                  simp only [if_pos c33] at hJ32
                  exact hJ32
              refine z_putI (ki := 17) zfRX9_193 dX9_nextToken_135 hh0.1 rfl rfl ?_
              refine z_genw (fun w36 hw36 => ?_)
              replace h := h w36 hw36
              refine z_aload_n 0 dX9_nextToken_138 rfl rfl ?_
              refine z_dup dX9_nextToken_139 rfl ?_
              refine z_getI (ki := 15) zfRX9_178 dX9_nextToken_140 hh0.1 rfl rfl ?_
              refine z_iconst dX9_nextToken_143 (by decide) ?_
              obtain ⟨q37, h⟩ := h
              refine z_iadd dX9_nextToken_144 q37 ?_
              refine z_putI (ki := 15) zfRX9_178 dX9_nextToken_145 hh0.1 rfl rfl ?_
              refine z_genw (fun w38 hw38 => ?_)
              replace h := h w38 hw38
              exact z_ret (v := none) dX9_nextToken_148 ⟨rfl, rfl⟩ rfl rfl h
            · replace h := h.2 c30
              refine z_aload_n 0 dX9_nextToken_108 rfl rfl ?_
              refine z_callV (As := []) (rest := []) zmX9_takesDigits znX9_takesDigits zsX9_takesDigits (show vwCl[9]? = some (RX9, TX9, 29) from rfl) zlRX9_202 ⟨Nat.le_of_ble_eq_true rfl, Nat.le_of_ble_eq_true rfl⟩ dX9_nextToken_109 hh0.1 rfl rfl z_a0 (Nat.le_of_ble_eq_true rfl) (Nat.le_of_ble_eq_true rfl) ⟨Nat.le_refl _, Nat.le_refl _⟩ (z_CVm h ?_)
              intro w39 h
              show z_Sem mX9_nextToken (sh.length, 0) 112 [(0, z_r 161)] [] (sh, w39) Q
              refine z_goto (tgt := 148) dX9_nextToken_112 (by decide) ?_
              exact z_ret (v := none) dX9_nextToken_148 ⟨rfl, rfl⟩ rfl rfl h
          · replace h := h.2 c28
            refine z_aload_n 0 dX9_nextToken_90 rfl rfl ?_
            refine z_callV (As := []) (rest := []) zmX9_takesLetters znX9_takesLetters zsX9_takesLetters (show vwCl[9]? = some (RX9, TX9, 29) from rfl) zlRX9_199 ⟨Nat.le_of_ble_eq_true rfl, Nat.le_of_ble_eq_true rfl⟩ dX9_nextToken_91 hh0.1 rfl rfl z_a0 (Nat.le_of_ble_eq_true rfl) (Nat.le_of_ble_eq_true rfl) ⟨Nat.le_refl _, Nat.le_refl _⟩ (z_CVm h ?_)
            intro w40 h
            show z_Sem mX9_nextToken (sh.length, 0) 94 [(0, z_r 161)] [] (sh, w40) Q
            refine z_goto (tgt := 148) dX9_nextToken_94 (by decide) ?_
            exact z_ret (v := none) dX9_nextToken_148 ⟨rfl, rfl⟩ rfl rfl h
        · replace h := h.1 c26
          refine z_aload_n 0 dX9_nextToken_71 rfl rfl ?_
          refine z_iconst dX9_nextToken_72 (by decide) ?_
          refine z_putI (ki := 17) zfRX9_193 dX9_nextToken_73 hh0.1 rfl rfl ?_
          refine z_genw (fun w41 hw41 => ?_)
          replace h := h w41 hw41
          refine z_goto (tgt := 148) dX9_nextToken_76 (by decide) ?_
          exact z_ret (v := none) dX9_nextToken_148 ⟨rfl, rfl⟩ rfl rfl h
      · replace h := h.1 c24
        refine z_aload_n 0 dX9_nextToken_39 rfl rfl ?_
        refine z_dup dX9_nextToken_40 rfl ?_
        refine z_getI (ki := 15) zfRX9_178 dX9_nextToken_41 hh0.1 rfl rfl ?_
        refine z_iconst dX9_nextToken_44 (by decide) ?_
        obtain ⟨q42, h⟩ := h
        refine z_iadd dX9_nextToken_45 q42 ?_
        refine z_putI (ki := 15) zfRX9_178 dX9_nextToken_46 hh0.1 rfl rfl ?_
        refine z_genw (fun w43 hw43 => ?_)
        replace h := h w43 hw43
        refine z_goto (tgt := 0) dX9_nextToken_49 (by decide) ?_
        exact h
set_option maxRecDepth 100000 in
theorem t_X9_takes {sh : List z_C} {w : Nat → Int → Int} {Q : Option z_V → z_S → Prop} {x1 : Int} (hh0 : z_isMod sh 161) (h : (((w 161 20) = 0 → (((w 161 20) = 0 → Q none (sh, w)) ∧ (¬ (w 161 20) = 0 → z_CV mX9_nextToken [z_r 161] sh w (fun w3 => Q none (sh, w3))))) ∧ (¬ (w 161 20) = 0 → ((x1 = 0 → ∀ w7 : Nat → Int → Int, w7 = z_W w 161 20 0 → ∀ w8 : Nat → Int → Int, w8 = z_W w7 161 2 (w7 161 16) → (((w8 161 20) = 0 → Q none (sh, w8)) ∧ (¬ (w8 161 20) = 0 → z_CV mX9_nextToken [z_r 161] sh w8 (fun w10 => Q none (sh, w10))))) ∧ (¬ x1 = 0 → (((w 161 20) = 0 → Q none (sh, w)) ∧ (¬ (w 161 20) = 0 → z_CV mX9_nextToken [z_r 161] sh w (fun w6 => Q none (sh, w6))))))))) : z_Sem mX9_takes (sh.length, 0) 0 [(0, z_r 161), (1, z_i x1)] [] (sh, w) Q := by
  refine z_aload_n 0 dX9_takes_0 rfl rfl ?_
  refine z_getI (ki := 20) zfRX9_205 dX9_takes_1 hh0.1 rfl rfl ?_
  refine z_if_eq (tgt := 24) dX9_takes_4 (by decide) (fun c1 => ?_) (fun c1 => ?_)
  · replace h := h.1 c1
    refine z_aload_n 0 dX9_takes_24 rfl rfl ?_
    refine z_getI (ki := 20) zfRX9_205 dX9_takes_25 hh0.1 rfl rfl ?_
    refine z_if_eq (tgt := 35) dX9_takes_28 (by decide) (fun c2 => ?_) (fun c2 => ?_)
    · replace h := h.1 c2
      exact z_ret (v := none) dX9_takes_35 ⟨rfl, rfl⟩ rfl rfl h
    · replace h := h.2 c2
      refine z_aload_n 0 dX9_takes_31 rfl rfl ?_
      refine z_callV (As := []) (rest := []) zmX9_nextToken znX9_nextToken zsX9_nextToken (show vwCl[9]? = some (RX9, TX9, 29) from rfl) zlRX9_209 ⟨Nat.le_of_ble_eq_true rfl, Nat.le_of_ble_eq_true rfl⟩ dX9_takes_32 hh0.1 rfl rfl z_a0 (Nat.le_of_ble_eq_true rfl) (Nat.le_of_ble_eq_true rfl) ⟨Nat.le_refl _, Nat.le_refl _⟩ (z_CVm h ?_)
      intro w3 h
      show z_Sem mX9_takes (sh.length, 0) 35 [(0, z_r 161), (1, z_i x1)] [] (sh, w3) Q
      exact z_ret (v := none) dX9_takes_35 ⟨rfl, rfl⟩ rfl rfl h
  · replace h := h.2 c1
    refine z_iload_n 1 dX9_takes_7 rfl rfl ?_
    refine z_if_ne (tgt := 24) dX9_takes_8 (by decide) (fun c4 => ?_) (fun c4 => ?_)
    · replace h := h.2 c4
      refine z_aload_n 0 dX9_takes_24 rfl rfl ?_
      refine z_getI (ki := 20) zfRX9_205 dX9_takes_25 hh0.1 rfl rfl ?_
      refine z_if_eq (tgt := 35) dX9_takes_28 (by decide) (fun c5 => ?_) (fun c5 => ?_)
      · replace h := h.1 c5
        exact z_ret (v := none) dX9_takes_35 ⟨rfl, rfl⟩ rfl rfl h
      · replace h := h.2 c5
        refine z_aload_n 0 dX9_takes_31 rfl rfl ?_
        refine z_callV (As := []) (rest := []) zmX9_nextToken znX9_nextToken zsX9_nextToken (show vwCl[9]? = some (RX9, TX9, 29) from rfl) zlRX9_209 ⟨Nat.le_of_ble_eq_true rfl, Nat.le_of_ble_eq_true rfl⟩ dX9_takes_32 hh0.1 rfl rfl z_a0 (Nat.le_of_ble_eq_true rfl) (Nat.le_of_ble_eq_true rfl) ⟨Nat.le_refl _, Nat.le_refl _⟩ (z_CVm h ?_)
        intro w6 h
        show z_Sem mX9_takes (sh.length, 0) 35 [(0, z_r 161), (1, z_i x1)] [] (sh, w6) Q
        exact z_ret (v := none) dX9_takes_35 ⟨rfl, rfl⟩ rfl rfl h
    · replace h := h.1 c4
      refine z_aload_n 0 dX9_takes_11 rfl rfl ?_
      refine z_iconst dX9_takes_12 (by decide) ?_
      refine z_putZ (ki := 20) zfRX9_205 dX9_takes_13 hh0.1 rfl rfl (by decide) ?_
      refine z_genw (fun w7 hw7 => ?_)
      replace h := h w7 hw7
      refine z_aload_n 0 dX9_takes_16 rfl rfl ?_
      refine z_aload_n 0 dX9_takes_17 rfl rfl ?_
      refine z_getI (ki := 16) zfRX9_190 dX9_takes_18 hh0.1 rfl rfl ?_
      refine z_putI (ki := 2) zfRX9_13 dX9_takes_21 hh0.1 rfl rfl ?_
      refine z_genw (fun w8 hw8 => ?_)
      replace h := h w8 hw8
      refine z_aload_n 0 dX9_takes_24 rfl rfl ?_
      refine z_getI (ki := 20) zfRX9_205 dX9_takes_25 hh0.1 rfl rfl ?_
      refine z_if_eq (tgt := 35) dX9_takes_28 (by decide) (fun c9 => ?_) (fun c9 => ?_)
      · replace h := h.1 c9
        exact z_ret (v := none) dX9_takes_35 ⟨rfl, rfl⟩ rfl rfl h
      · replace h := h.2 c9
        refine z_aload_n 0 dX9_takes_31 rfl rfl ?_
        refine z_callV (As := []) (rest := []) zmX9_nextToken znX9_nextToken zsX9_nextToken (show vwCl[9]? = some (RX9, TX9, 29) from rfl) zlRX9_209 ⟨Nat.le_of_ble_eq_true rfl, Nat.le_of_ble_eq_true rfl⟩ dX9_takes_32 hh0.1 rfl rfl z_a0 (Nat.le_of_ble_eq_true rfl) (Nat.le_of_ble_eq_true rfl) ⟨Nat.le_refl _, Nat.le_refl _⟩ (z_CVm h ?_)
        intro w10 h
        show z_Sem mX9_takes (sh.length, 0) 35 [(0, z_r 161), (1, z_i x1)] [] (sh, w10) Q
        exact z_ret (v := none) dX9_takes_35 ⟨rfl, rfl⟩ rfl rfl h
def f_X9_isKey (w : Nat → Int → Int) (x1 : Int) : Int := if (w 161 20) = 0 then 0 else if (w 161 17) = 1 then (if (w 161 18) = x1 then 1 else 0) else 0
set_option maxRecDepth 100000 in
theorem t_X9_isKey {sh : List z_C} {w : Nat → Int → Int} {Q : Option z_V → z_S → Prop} {x1 : Int} (hh0 : z_isMod sh 161) (h : Q (some (z_i (f_X9_isKey w x1))) (sh, w)) : z_Sem mX9_isKey (sh.length, 0) 0 [(0, z_r 161), (1, z_i x1)] [] (sh, w) Q := by
  unfold f_X9_isKey at h
  refine z_aload_n 0 dX9_isKey_0 rfl rfl ?_
  refine z_getI (ki := 20) zfRX9_205 dX9_isKey_1 hh0.1 rfl rfl ?_
  suffices hJ1 : z_Sem mX9_isKey (sh.length, 0) 28 [] [z_i (if (w 161 20) = 0 then 0 else if (w 161 17) = 1 then (if (w 161 18) = x1 then 1 else 0) else 0)] (sh, w) Q by
    refine z_if_eq (tgt := 27) dX9_isKey_4 (by decide) (fun c2 => ?_) (fun c2 => ?_)
    · skip
      refine z_iconst dX9_isKey_27 (by decide) ?_
      refine z_sub (L' := []) [] rfl ?_
      simp only [if_pos c2] at hJ1
      exact hJ1
    · skip
      refine z_aload_n 0 dX9_isKey_7 rfl rfl ?_
      refine z_getI (ki := 17) zfRX9_193 dX9_isKey_8 hh0.1 rfl rfl ?_
      refine z_iconst dX9_isKey_11 (by decide) ?_
      suffices hJ5 : z_Sem mX9_isKey (sh.length, 0) 28 [] [z_i (if (w 161 17) = 1 then (if (w 161 18) = x1 then 1 else 0) else 0)] (sh, w) Q by
        refine z_icmp_ne (tgt := 27) dX9_isKey_12 (by decide) (fun c6 => ?_) (fun c6 => ?_)
        · skip
          refine z_iconst dX9_isKey_27 (by decide) ?_
          refine z_sub (L' := []) [] rfl ?_
          simp only [if_neg c6] at hJ5
          exact hJ5
        · skip
          refine z_aload_n 0 dX9_isKey_15 rfl rfl ?_
          refine z_getI (ki := 18) zfRX9_184 dX9_isKey_16 hh0.1 rfl rfl ?_
          refine z_iload_n 1 dX9_isKey_19 rfl rfl ?_
          suffices hJ9 : z_Sem mX9_isKey (sh.length, 0) 28 [] [z_i (if (w 161 18) = x1 then 1 else 0)] (sh, w) Q by
            refine z_icmp_ne (tgt := 27) dX9_isKey_20 (by decide) (fun c10 => ?_) (fun c10 => ?_)
            · skip
              refine z_iconst dX9_isKey_27 (by decide) ?_
              refine z_sub (L' := []) [] rfl ?_
              simp only [if_neg c10] at hJ9
              exact hJ9
            · skip
              refine z_iconst dX9_isKey_23 (by decide) ?_
              refine z_goto (tgt := 28) dX9_isKey_24 (by decide) ?_
              refine z_sub (L' := []) [] rfl ?_
              simp only [if_pos c10] at hJ9
              exact hJ9
          simp only [if_pos c6] at hJ5
          exact hJ5
      simp only [if_neg c2] at hJ1
      exact hJ1
  exact z_ret (v := some (z_i (if (w 161 20) = 0 then 0 else if (w 161 17) = 1 then (if (w 161 18) = x1 then 1 else 0) else 0))) dX9_isKey_28 ⟨rfl, Or.inr (Or.inl ⟨rfl, (z_it01 (by decide) (z_it01 (z_it01 (by decide) (by decide)) (by decide)))⟩)⟩ rfl rfl h
set_option maxRecDepth 100000 in
theorem t_X9_isKeyword {sh : List z_C} {w : Nat → Int → Int} {Q : Option z_V → z_S → Prop} {x0 : Int}  (h : ((x0 = 5572 → Q (some (z_i 1)) (sh, w)) ∧ (x0 = 7216 → Q (some (z_i 1)) (sh, w)) ∧ (x0 = 15558 → Q (some (z_i 1)) (sh, w)) ∧ (x0 = 16686 → Q (some (z_i 1)) (sh, w)) ∧ (x0 = 441972 → Q (some (z_i 1)) (sh, w)) ∧ (x0 = 5969364 → Q (some (z_i 1)) (sh, w)) ∧ (x0 = 12748404 → Q (some (z_i 1)) (sh, w)) ∧ (x0 = 20579924 → Q (some (z_i 1)) (sh, w)) ∧ (¬ x0 = 5572 ∧ ¬ x0 = 7216 ∧ ¬ x0 = 15558 ∧ ¬ x0 = 16686 ∧ ¬ x0 = 441972 ∧ ¬ x0 = 5969364 ∧ ¬ x0 = 12748404 ∧ ¬ x0 = 20579924 → Q (some (z_i 0)) (sh, w)))) : z_Sem mX9_isKeyword (sh.length, 0) 0 [(0, z_i x0)] [] (sh, w) Q := by
  refine z_iload_n 0 dX9_isKeyword_0 rfl rfl ?_
  rcases Decidable.em (x0 = 5572) with c1 | c1_0
  · replace h := h.1 c1
    refine z_look (off := 75) (tgt := 76) dX9_isKeyword_1 (by decide) (by rw [c1]; rfl) (by decide) ?_
    refine z_iconst dX9_isKeyword_76 (by decide) ?_
    exact z_ret (v := some (z_i 1)) dX9_isKeyword_77 ⟨rfl, Or.inr (Or.inl ⟨rfl, (by decide)⟩)⟩ rfl rfl h
  rcases Decidable.em (x0 = 7216) with c1 | c1_1
  · replace h := h.2.1 c1
    refine z_look (off := 75) (tgt := 76) dX9_isKeyword_1 (by decide) (by rw [c1]; rfl) (by decide) ?_
    refine z_iconst dX9_isKeyword_76 (by decide) ?_
    exact z_ret (v := some (z_i 1)) dX9_isKeyword_77 ⟨rfl, Or.inr (Or.inl ⟨rfl, (by decide)⟩)⟩ rfl rfl h
  rcases Decidable.em (x0 = 15558) with c1 | c1_2
  · replace h := h.2.2.1 c1
    refine z_look (off := 75) (tgt := 76) dX9_isKeyword_1 (by decide) (by rw [c1]; rfl) (by decide) ?_
    refine z_iconst dX9_isKeyword_76 (by decide) ?_
    exact z_ret (v := some (z_i 1)) dX9_isKeyword_77 ⟨rfl, Or.inr (Or.inl ⟨rfl, (by decide)⟩)⟩ rfl rfl h
  rcases Decidable.em (x0 = 16686) with c1 | c1_3
  · replace h := h.2.2.2.1 c1
    refine z_look (off := 75) (tgt := 76) dX9_isKeyword_1 (by decide) (by rw [c1]; rfl) (by decide) ?_
    refine z_iconst dX9_isKeyword_76 (by decide) ?_
    exact z_ret (v := some (z_i 1)) dX9_isKeyword_77 ⟨rfl, Or.inr (Or.inl ⟨rfl, (by decide)⟩)⟩ rfl rfl h
  rcases Decidable.em (x0 = 441972) with c1 | c1_4
  · replace h := h.2.2.2.2.1 c1
    refine z_look (off := 75) (tgt := 76) dX9_isKeyword_1 (by decide) (by rw [c1]; rfl) (by decide) ?_
    refine z_iconst dX9_isKeyword_76 (by decide) ?_
    exact z_ret (v := some (z_i 1)) dX9_isKeyword_77 ⟨rfl, Or.inr (Or.inl ⟨rfl, (by decide)⟩)⟩ rfl rfl h
  rcases Decidable.em (x0 = 5969364) with c1 | c1_5
  · replace h := h.2.2.2.2.2.1 c1
    refine z_look (off := 75) (tgt := 76) dX9_isKeyword_1 (by decide) (by rw [c1]; rfl) (by decide) ?_
    refine z_iconst dX9_isKeyword_76 (by decide) ?_
    exact z_ret (v := some (z_i 1)) dX9_isKeyword_77 ⟨rfl, Or.inr (Or.inl ⟨rfl, (by decide)⟩)⟩ rfl rfl h
  rcases Decidable.em (x0 = 12748404) with c1 | c1_6
  · replace h := h.2.2.2.2.2.2.1 c1
    refine z_look (off := 75) (tgt := 76) dX9_isKeyword_1 (by decide) (by rw [c1]; rfl) (by decide) ?_
    refine z_iconst dX9_isKeyword_76 (by decide) ?_
    exact z_ret (v := some (z_i 1)) dX9_isKeyword_77 ⟨rfl, Or.inr (Or.inl ⟨rfl, (by decide)⟩)⟩ rfl rfl h
  rcases Decidable.em (x0 = 20579924) with c1 | c1_7
  · replace h := h.2.2.2.2.2.2.2.1 c1
    refine z_look (off := 75) (tgt := 76) dX9_isKeyword_1 (by decide) (by rw [c1]; rfl) (by decide) ?_
    refine z_iconst dX9_isKeyword_76 (by decide) ?_
    exact z_ret (v := some (z_i 1)) dX9_isKeyword_77 ⟨rfl, Or.inr (Or.inl ⟨rfl, (by decide)⟩)⟩ rfl rfl h
  replace h := h.2.2.2.2.2.2.2.2 ⟨c1_0, c1_1, c1_2, c1_3, c1_4, c1_5, c1_6, c1_7⟩
  refine z_look (off := 77) (tgt := 78) dX9_isKeyword_1 (by decide) (z_lkd (List.forall_mem_cons.mpr ⟨fun e => c1_0 e.symm, List.forall_mem_cons.mpr ⟨fun e => c1_1 e.symm, List.forall_mem_cons.mpr ⟨fun e => c1_2 e.symm, List.forall_mem_cons.mpr ⟨fun e => c1_3 e.symm, List.forall_mem_cons.mpr ⟨fun e => c1_4 e.symm, List.forall_mem_cons.mpr ⟨fun e => c1_5 e.symm, List.forall_mem_cons.mpr ⟨fun e => c1_6 e.symm, List.forall_mem_cons.mpr ⟨fun e => c1_7 e.symm, fun _ h => by cases h⟩⟩⟩⟩⟩⟩⟩⟩)) (by decide) ?_
  refine z_iconst dX9_isKeyword_78 (by decide) ?_
  exact z_ret (v := some (z_i 0)) dX9_isKeyword_79 ⟨rfl, Or.inr (Or.inl ⟨rfl, (by decide)⟩)⟩ rfl rfl h
set_option maxRecDepth 100000 in
theorem t_X9_isName {sh : List z_C} {w : Nat → Int → Int} {Q : Option z_V → z_S → Prop} {x0 : Int}  (h : ((x0 ≤ 0 → Q (some (z_i 0)) (sh, w)) ∧ (¬ x0 ≤ 0 → z_CI mX9_isKeyword [z_i x0] sh w (fun y3 w2 => Q (some (z_i (if y3 = 0 then 1 else 0))) (sh, w2))))) : z_Sem mX9_isName (sh.length, 0) 0 [(0, z_i x0)] [] (sh, w) Q := by
  refine z_iload_n 0 dX9_isName_0 rfl rfl ?_
  refine z_if_le (tgt := 15) dX9_isName_1 (by decide) (fun c1 => ?_) (fun c1 => ?_)
  · replace h := h.1 c1
    refine z_iconst dX9_isName_15 (by decide) ?_
    exact z_ret (v := some (z_i 0)) dX9_isName_16 ⟨rfl, Or.inr (Or.inl ⟨rfl, (by decide)⟩)⟩ rfl rfl h
  · replace h := h.2 c1
    refine z_iload_n 0 dX9_isName_4 rfl rfl ?_
    refine z_callS (As := [z_i x0]) (rest := []) zmX9_isKeyword ztX9_isKeyword zlRX9_212 ⟨Nat.le_of_ble_eq_true rfl, Nat.le_of_ble_eq_true rfl⟩ dX9_isName_5 rfl rfl (z_ai z_a0) (Nat.le_of_ble_eq_true rfl) (Nat.le_of_ble_eq_true rfl) ⟨Nat.le_refl _, Nat.le_refl _⟩ (z_CIm h ?_)
    intro y3 w2 h
    show z_Sem mX9_isName (sh.length, 0) 8 [(0, z_i x0)] [z_i y3] (sh, w2) Q
    suffices hJ4 : z_Sem mX9_isName (sh.length, 0) 16 [] [z_i (if y3 = 0 then 1 else 0)] (sh, w2) Q by
      refine z_if_ne (tgt := 15) dX9_isName_8 (by decide) (fun c5 => ?_) (fun c5 => ?_)
      · skip
        refine z_iconst dX9_isName_15 (by decide) ?_
        refine z_sub (L' := []) [] rfl ?_
        simp only [if_neg c5] at hJ4
        exact hJ4
      · skip
        refine z_iconst dX9_isName_11 (by decide) ?_
        refine z_goto (tgt := 16) dX9_isName_12 (by decide) ?_
        refine z_sub (L' := []) [] rfl ?_
        simp only [if_pos c5] at hJ4
        exact hJ4
    exact z_ret (v := some (z_i (if y3 = 0 then 1 else 0))) dX9_isName_16 ⟨rfl, Or.inr (Or.inl ⟨rfl, (z_it01 (by decide) (by decide))⟩)⟩ rfl rfl h
set_option maxRecDepth 100000 in
theorem t_X9_named {sh : List z_C} {w : Nat → Int → Int} {Q : Option z_V → z_S → Prop} {x1 : Int} (hh0 : z_isMod sh 161) (h : z_Sem mX9_named (sh.length, 0) 2 [(0, z_r 161), (1, z_i x1), (2, z_i 0)] [] (sh, w) Q) : z_Sem mX9_named (sh.length, 0) 0 [(0, z_r 161), (1, z_i x1)] [] (sh, w) Q := by
  refine z_iconst dX9_named_0 (by decide) ?_
  refine z_istore_n (L' := [(2, z_i 0), (0, z_r 161), (1, z_i x1)]) dX9_named_1 rfl (by decide) rfl ?_
  refine z_sub (L' := [(0, z_r 161), (1, z_i x1), (2, z_i 0)]) [1, 2, 0] rfl ?_
  exact h
set_option maxRecDepth 100000 in
theorem t_X9_named_2 {sh : List z_C} {w : Nat → Int → Int} {Q : Option z_V → z_S → Prop} {x1 : Int} {x2 : Int} (hh0 : z_isMod sh 161) (h : (((w 163 1) ≤ x2 → Q (some (z_i (-2))) (sh, w)) ∧ (¬ (w 163 1) ≤ x2 → ((x1 ≤ 0 → (z_R (x2 + 1)) ∧ z_Sem mX9_named (sh.length, 0) 2 [(0, z_r 161), (1, z_i x1), (2, z_i (x2 + 1))] [] (sh, w) Q) ∧ (¬ x1 ≤ 0 → (z_R (3 + x2)) ∧ ((0 : Int) ≤ (3 + x2) ∧ (3 + x2) < 264) ∧ (((w 163 (3 + x2)) = x1 → Q (some (z_i x2)) (sh, w)) ∧ (¬ (w 163 (3 + x2)) = x1 → (z_R (x2 + 1)) ∧ z_Sem mX9_named (sh.length, 0) 2 [(0, z_r 161), (1, z_i x1), (2, z_i (x2 + 1))] [] (sh, w) Q))))))) : z_Sem mX9_named (sh.length, 0) 2 [(0, z_r 161), (1, z_i x1), (2, z_i x2)] [] (sh, w) Q := by
  refine z_iload_n 2 dX9_named_2 rfl rfl ?_
  refine z_aload_n 0 dX9_named_3 rfl rfl ?_
  refine z_getR (r := 163) zfRX9_17 dX9_named_4 hh0.1 rfl ?_
  refine z_iconst dX9_named_7 (by decide) ?_
  refine z_iald dX9_named_8 hh0.2.2.1 (by decide) ?_
  refine z_icmp_ge (tgt := 36) dX9_named_9 (by decide) (fun c1 => ?_) (fun c1 => ?_)
  · replace h := h.1 c1
    refine z_bipush dX9_named_36 (by decide) (by decide) ?_
    exact z_ret (v := some (z_i (-2))) dX9_named_38 ⟨rfl, Or.inl rfl⟩ rfl rfl h
  · replace h := h.2 c1
    refine z_iload_n 1 dX9_named_12 rfl rfl ?_
    refine z_if_le (tgt := 30) dX9_named_13 (by decide) (fun c2 => ?_) (fun c2 => ?_)
    · replace h := h.1 c2
      obtain ⟨q3, h⟩ := h
      refine z_iinc (L' := [(2, z_i (x2 + 1)), (0, z_r 161), (1, z_i x1)]) 2 dX9_named_30 rfl (by decide) rfl q3 ?_
      refine z_goto (tgt := 2) dX9_named_33 (by decide) ?_
      refine z_sub (L' := [(0, z_r 161), (1, z_i x1), (2, z_i (x2 + 1))]) [1, 2, 0] rfl ?_
      exact h
    · replace h := h.2 c2
      refine z_aload_n 0 dX9_named_16 rfl rfl ?_
      refine z_getR (r := 163) zfRX9_17 dX9_named_17 hh0.1 rfl ?_
      refine z_iconst dX9_named_20 (by decide) ?_
      refine z_iload_n 2 dX9_named_21 rfl rfl ?_
      obtain ⟨q4, h⟩ := h
      refine z_iadd dX9_named_22 q4 ?_
      obtain ⟨q5, h⟩ := h
      refine z_iald dX9_named_23 hh0.2.2.1 q5 ?_
      refine z_iload_n 1 dX9_named_24 rfl rfl ?_
      refine z_icmp_ne (tgt := 30) dX9_named_25 (by decide) (fun c6 => ?_) (fun c6 => ?_)
      · replace h := h.2 c6
        obtain ⟨q7, h⟩ := h
        refine z_iinc (L' := [(2, z_i (x2 + 1)), (0, z_r 161), (1, z_i x1)]) 2 dX9_named_30 rfl (by decide) rfl q7 ?_
        refine z_goto (tgt := 2) dX9_named_33 (by decide) ?_
        refine z_sub (L' := [(0, z_r 161), (1, z_i x1), (2, z_i (x2 + 1))]) [1, 2, 0] rfl ?_
        exact h
      · replace h := h.1 c6
        refine z_iload_n 2 dX9_named_28 rfl rfl ?_
        exact z_ret (v := some (z_i x2)) dX9_named_29 ⟨rfl, Or.inl rfl⟩ rfl rfl h
set_option maxRecDepth 100000 in
theorem t_X9_numberIn {sh : List z_C} {w : Nat → Int → Int} {Q : Option z_V → z_S → Prop} {x1 : Int} {x2 : Int} (hh0 : z_isMod sh 161) (h : ∀ y1 : Int, y1 = (w 161 19) → z_CV mX9_takes [z_r 161, z_i (if (w 161 20) = 0 then 0 else if (w 161 17) = 2 then (if (f_X9_in w y1 x1 x2) = 0 then 0 else 1) else 0)] sh w (fun w14 => Q (some (z_i (if (w14 161 20) = 0 then x1 else y1))) (sh, w14))) : z_Sem mX9_numberIn (sh.length, 0) 0 [(0, z_r 161), (1, z_i x1), (2, z_i x2)] [] (sh, w) Q := by
  refine z_aload_n 0 dX9_numberIn_0 rfl rfl ?_
  refine z_getI (ki := 19) zfRX9_196 dX9_numberIn_1 hh0.1 rfl rfl ?_
  refine z_nam (fun y1 hy1 => ?_)
  replace h := h y1 hy1
  refine z_istore_n (L' := [(3, z_i y1), (0, z_r 161), (1, z_i x1), (2, z_i x2)]) dX9_numberIn_4 rfl (by decide) rfl ?_
  refine z_aload_n 1 dX9_numberIn_5 rfl rfl ?_
  refine z_aload_n 1 dX9_numberIn_6 rfl rfl ?_
  refine z_getI (ki := 20) zfRX9_205 dX9_numberIn_7 hh0.1 rfl rfl ?_
  suffices hJ2 : z_Sem mX9_numberIn (sh.length, 0) 35 [(0, z_r 161), (1, z_i x1), (3, z_i y1)] [z_i (if (w 161 20) = 0 then 0 else if (w 161 17) = 2 then (if (f_X9_in w y1 x1 x2) = 0 then 0 else 1) else 0), z_r 161] (sh, w) Q by
    refine z_if_eq (tgt := 34) dX9_numberIn_10 (by decide) (fun c3 => ?_) (fun c3 => ?_)
    · skip
      refine z_iconst dX9_numberIn_34 (by decide) ?_
      refine z_sub (L' := [(0, z_r 161), (1, z_i x1), (3, z_i y1)]) [1, 2, 0] rfl ?_
      simp only [if_pos c3] at hJ2
      exact hJ2
    · skip
      refine z_aload_n 1 dX9_numberIn_13 rfl rfl ?_
      refine z_getI (ki := 17) zfRX9_193 dX9_numberIn_14 hh0.1 rfl rfl ?_
      refine z_iconst dX9_numberIn_17 (by decide) ?_
      suffices hJ6 : z_Sem mX9_numberIn (sh.length, 0) 35 [(0, z_r 161), (1, z_i x1), (3, z_i y1)] [z_i (if (w 161 17) = 2 then (if (f_X9_in w y1 x1 x2) = 0 then 0 else 1) else 0), z_r 161] (sh, w) Q by
        refine z_icmp_ne (tgt := 34) dX9_numberIn_18 (by decide) (fun c7 => ?_) (fun c7 => ?_)
        · skip
          refine z_iconst dX9_numberIn_34 (by decide) ?_
          refine z_sub (L' := [(0, z_r 161), (1, z_i x1), (3, z_i y1)]) [1, 2, 0] rfl ?_
          simp only [if_neg c7] at hJ6
          exact hJ6
        · skip
          refine z_iload_n 0 dX9_numberIn_21 rfl rfl ?_
          refine z_iload_n 2 dX9_numberIn_22 rfl rfl ?_
          refine z_iload_n 3 dX9_numberIn_23 rfl rfl ?_
          refine z_callS (As := [z_i y1, z_i x1, z_i x2]) (rest := [z_r 161]) zmX9_in ztX9_in zlRX9_65 ⟨Nat.le_of_ble_eq_true rfl, Nat.le_of_ble_eq_true rfl⟩ dX9_numberIn_24 rfl rfl (z_ai (z_ai (z_ai z_a0))) (Nat.le_of_ble_eq_true rfl) (Nat.le_of_ble_eq_true rfl) ⟨Nat.le_refl _, Nat.le_refl _⟩ ?_
          refine t_X9_in  ?_
          show z_Sem mX9_numberIn (sh.length, 0) 27 [(3, z_i y1), (0, z_r 161), (1, z_i x1), (2, z_i x2)] [z_i (f_X9_in w y1 x1 x2), z_r 161] (sh, w) Q
          suffices hJ10 : z_Sem mX9_numberIn (sh.length, 0) 35 [(0, z_r 161), (1, z_i x1), (3, z_i y1)] [z_i (if (f_X9_in w y1 x1 x2) = 0 then 0 else 1), z_r 161] (sh, w) Q by
            refine z_if_eq (tgt := 34) dX9_numberIn_27 (by decide) (fun c11 => ?_) (fun c11 => ?_)
            · skip
              refine z_iconst dX9_numberIn_34 (by decide) ?_
              refine z_sub (L' := [(0, z_r 161), (1, z_i x1), (3, z_i y1)]) [1, 2, 0] rfl ?_
              simp only [if_pos c11] at hJ10
              exact hJ10
            · skip
              refine z_iconst dX9_numberIn_30 (by decide) ?_
              refine z_goto (tgt := 35) dX9_numberIn_31 (by decide) ?_
              refine z_sub (L' := [(0, z_r 161), (1, z_i x1), (3, z_i y1)]) [1, 2, 0] rfl ?_
              simp only [if_neg c11] at hJ10
              exact hJ10
          simp only [if_pos c7] at hJ6
          exact hJ6
      simp only [if_neg c3] at hJ2
      exact hJ2
  refine z_callV (As := [z_i (if (w 161 20) = 0 then 0 else if (w 161 17) = 2 then (if (f_X9_in w y1 x1 x2) = 0 then 0 else 1) else 0)]) (rest := []) zmX9_takes znX9_takes zsX9_takes (show vwCl[9]? = some (RX9, TX9, 29) from rfl) zlRX9_215 ⟨Nat.le_of_ble_eq_true rfl, Nat.le_of_ble_eq_true rfl⟩ dX9_numberIn_35 hh0.1 rfl rfl (z_ai z_a0) (Nat.le_of_ble_eq_true rfl) (Nat.le_of_ble_eq_true rfl) ⟨Nat.le_refl _, Nat.le_refl _⟩ (z_CVm h ?_)
  intro w14 h
  show z_Sem mX9_numberIn (sh.length, 0) 38 [(0, z_r 161), (1, z_i x1), (3, z_i y1)] [] (sh, w14) Q
  refine z_aload_n 0 dX9_numberIn_38 rfl rfl ?_
  refine z_getI (ki := 20) zfRX9_205 dX9_numberIn_39 hh0.1 rfl rfl ?_
  suffices hJ15 : z_Sem mX9_numberIn (sh.length, 0) 50 [] [z_i (if (w14 161 20) = 0 then x1 else y1)] (sh, w14) Q by
    refine z_if_eq (tgt := 49) dX9_numberIn_42 (by decide) (fun c16 => ?_) (fun c16 => ?_)
    · skip
      refine z_iload_n 1 dX9_numberIn_49 rfl rfl ?_
      refine z_sub (L' := []) [] rfl ?_
      simp only [if_pos c16] at hJ15
      exact hJ15
    · skip
      refine z_iload_n 2 dX9_numberIn_45 rfl rfl ?_
      refine z_goto (tgt := 50) dX9_numberIn_46 (by decide) ?_
      refine z_sub (L' := []) [] rfl ?_
      simp only [if_neg c16] at hJ15
      exact hJ15
  exact z_ret (v := some (z_i (if (w14 161 20) = 0 then x1 else y1))) dX9_numberIn_50 ⟨rfl, Or.inl rfl⟩ rfl rfl h
set_option maxRecDepth 100000 in
theorem t_X9_opens {sh : List z_C} {w : Nat → Int → Int} {Q : Option z_V → z_S → Prop} {x1 : Int} (hh0 : z_isMod sh 161) (h : (z_R (3 + (w 163 1))) ∧ ((0 : Int) ≤ (3 + (w 163 1)) ∧ (3 + (w 163 1)) < 264) ∧ ∀ w2 : Nat → Int → Int, w2 = z_W w 163 (3 + (w 163 1)) x1 → (z_R (133 + (w2 163 1))) ∧ ((0 : Int) ≤ (133 + (w2 163 1)) ∧ (133 + (w2 163 1)) < 264) ∧ ∀ w5 : Nat → Int → Int, w5 = z_W w2 163 (133 + (w2 163 1)) 0 → (z_R ((w5 163 1) + 1)) ∧ ∀ w8 : Nat → Int → Int, w8 = z_W w5 163 1 ((w5 163 1) + 1) → Q none (sh, w8)) : z_Sem mX9_opens (sh.length, 0) 0 [(0, z_r 161), (1, z_i x1)] [] (sh, w) Q := by
  refine z_aload_n 0 dX9_opens_0 rfl rfl ?_
  refine z_getR (r := 163) zfRX9_17 dX9_opens_1 hh0.1 rfl ?_
  refine z_iconst dX9_opens_4 (by decide) ?_
  refine z_aload_n 0 dX9_opens_5 rfl rfl ?_
  refine z_getR (r := 163) zfRX9_17 dX9_opens_6 hh0.1 rfl ?_
  refine z_iconst dX9_opens_9 (by decide) ?_
  refine z_iald dX9_opens_10 hh0.2.2.1 (by decide) ?_
  obtain ⟨q1, h⟩ := h
  refine z_iadd dX9_opens_11 q1 ?_
  refine z_iload_n 1 dX9_opens_12 rfl rfl ?_
  obtain ⟨q3, h⟩ := h
  refine z_iast dX9_opens_13 hh0.2.2.1 q3 ?_
  refine z_genw (fun w2 hw2 => ?_)
  replace h := h w2 hw2
  refine z_aload_n 0 dX9_opens_14 rfl rfl ?_
  refine z_getR (r := 163) zfRX9_17 dX9_opens_15 hh0.1 rfl ?_
  refine z_sipush dX9_opens_18 (by decide) (by decide) ?_
  refine z_aload_n 0 dX9_opens_21 rfl rfl ?_
  refine z_getR (r := 163) zfRX9_17 dX9_opens_22 hh0.1 rfl ?_
  refine z_iconst dX9_opens_25 (by decide) ?_
  refine z_iald dX9_opens_26 hh0.2.2.1 (by decide) ?_
  obtain ⟨q4, h⟩ := h
  refine z_iadd dX9_opens_27 q4 ?_
  refine z_iconst dX9_opens_28 (by decide) ?_
  obtain ⟨q6, h⟩ := h
  refine z_iast dX9_opens_29 hh0.2.2.1 q6 ?_
  refine z_genw (fun w5 hw5 => ?_)
  replace h := h w5 hw5
  refine z_aload_n 0 dX9_opens_30 rfl rfl ?_
  refine z_getR (r := 163) zfRX9_17 dX9_opens_31 hh0.1 rfl ?_
  refine z_iconst dX9_opens_34 (by decide) ?_
  refine z_dup2 dX9_opens_35 rfl rfl ?_
  refine z_iald dX9_opens_36 hh0.2.2.1 (by decide) ?_
  refine z_iconst dX9_opens_37 (by decide) ?_
  obtain ⟨q7, h⟩ := h
  refine z_iadd dX9_opens_38 q7 ?_
  refine z_iast dX9_opens_39 hh0.2.2.1 (by decide) ?_
  refine z_genw (fun w8 hw8 => ?_)
  replace h := h w8 hw8
  exact z_ret (v := none) dX9_opens_40 ⟨rfl, rfl⟩ rfl rfl h
set_option maxRecDepth 100000 in
theorem t_X9_readEvent {sh : List z_C} {w : Nat → Int → Int} {Q : Option z_V → z_S → Prop}  (hh0 : z_isMod sh 161) (h : z_CV mX9_takes [z_r 161, z_i (if 10 ≤ (w 163 1) then 0 else 1)] sh w (fun w5 => ∀ y6 : Int, y6 = (w5 161 18) → (((w5 161 20) = 0 → z_CV mX9_takes [z_r 161, z_i 0] sh w5 (fun w8 => z_CV mX9_takes [z_r 161, z_i (if (w8 161 20) = 0 then 0 else if (w8 161 17) = 3 then 1 else 0)] sh w8 (fun w17 => (((w17 161 20) = 0 → Q none (sh, w17)) ∧ (¬ (w17 161 20) = 0 → z_CV mX9_opens [z_r 161, z_i y6] sh w17 (fun w19 => Q none (sh, w19))))))) ∧ (¬ (w5 161 20) = 0 → (((w5 161 17) = 1 → z_CI mX9_isName [z_i y6] sh w5 (fun y34 w33 => ((y34 = 0 → z_CV mX9_takes [z_r 161, z_i 0] sh w33 (fun w36 => z_CV mX9_takes [z_r 161, z_i (if (w36 161 20) = 0 then 0 else if (w36 161 17) = 3 then 1 else 0)] sh w36 (fun w45 => (((w45 161 20) = 0 → Q none (sh, w45)) ∧ (¬ (w45 161 20) = 0 → z_CV mX9_opens [z_r 161, z_i y6] sh w45 (fun w47 => Q none (sh, w47))))))) ∧ (¬ y34 = 0 → z_CI mX9_named [z_r 161, z_i y6] sh w33 (fun y49 w48 => z_CV mX9_takes [z_r 161, z_i (if 0 ≤ y49 then 0 else 1)] sh w48 (fun w54 => z_CV mX9_takes [z_r 161, z_i (if (w54 161 20) = 0 then 0 else if (w54 161 17) = 3 then 1 else 0)] sh w54 (fun w63 => (((w63 161 20) = 0 → Q none (sh, w63)) ∧ (¬ (w63 161 20) = 0 → z_CV mX9_opens [z_r 161, z_i y6] sh w63 (fun w65 => Q none (sh, w65))))))))))) ∧ (¬ (w5 161 17) = 1 → z_CV mX9_takes [z_r 161, z_i 0] sh w5 (fun w21 => z_CV mX9_takes [z_r 161, z_i (if (w21 161 20) = 0 then 0 else if (w21 161 17) = 3 then 1 else 0)] sh w21 (fun w30 => (((w30 161 20) = 0 → Q none (sh, w30)) ∧ (¬ (w30 161 20) = 0 → z_CV mX9_opens [z_r 161, z_i y6] sh w30 (fun w32 => Q none (sh, w32)))))))))))) : z_Sem mX9_readEvent (sh.length, 0) 0 [(0, z_r 161)] [] (sh, w) Q := by
  refine z_aload_n 0 dX9_readEvent_0 rfl rfl ?_
  refine z_aload_n 0 dX9_readEvent_1 rfl rfl ?_
  refine z_getR (r := 163) zfRX9_17 dX9_readEvent_2 hh0.1 rfl ?_
  refine z_iconst dX9_readEvent_5 (by decide) ?_
  refine z_iald dX9_readEvent_6 hh0.2.2.1 (by decide) ?_
  refine z_bipush dX9_readEvent_7 (by decide) (by decide) ?_
  suffices hJ1 : z_Sem mX9_readEvent (sh.length, 0) 17 [(0, z_r 161)] [z_i (if 10 ≤ (w 163 1) then 0 else 1), z_r 161] (sh, w) Q by
    refine z_icmp_ge (tgt := 16) dX9_readEvent_9 (by decide) (fun c2 => ?_) (fun c2 => ?_)
    · skip
      refine z_iconst dX9_readEvent_16 (by decide) ?_
      simp only [if_pos c2] at hJ1
      exact hJ1
    · skip
      refine z_iconst dX9_readEvent_12 (by decide) ?_
      refine z_goto (tgt := 17) dX9_readEvent_13 (by decide) ?_
      simp only [if_neg c2] at hJ1
      exact hJ1
  refine z_callV (As := [z_i (if 10 ≤ (w 163 1) then 0 else 1)]) (rest := []) zmX9_takes znX9_takes zsX9_takes (show vwCl[9]? = some (RX9, TX9, 29) from rfl) zlRX9_215 ⟨Nat.le_of_ble_eq_true rfl, Nat.le_of_ble_eq_true rfl⟩ dX9_readEvent_17 hh0.1 rfl rfl (z_ai z_a0) (Nat.le_of_ble_eq_true rfl) (Nat.le_of_ble_eq_true rfl) ⟨Nat.le_refl _, Nat.le_refl _⟩ (z_CVm h ?_)
  intro w5 h
  show z_Sem mX9_readEvent (sh.length, 0) 20 [(0, z_r 161)] [] (sh, w5) Q
  refine z_aload_n 0 dX9_readEvent_20 rfl rfl ?_
  refine z_getI (ki := 18) zfRX9_184 dX9_readEvent_21 hh0.1 rfl rfl ?_
  refine z_nam (fun y6 hy6 => ?_)
  replace h := h y6 hy6
  refine z_istore_n (L' := [(1, z_i y6), (0, z_r 161)]) dX9_readEvent_24 rfl (by decide) rfl ?_
  refine z_aload_n 1 dX9_readEvent_25 rfl rfl ?_
  refine z_aload_n 1 dX9_readEvent_26 rfl rfl ?_
  refine z_getI (ki := 20) zfRX9_205 dX9_readEvent_27 hh0.1 rfl rfl ?_
  refine z_if_eq (tgt := 60) dX9_readEvent_30 (by decide) (fun c7 => ?_) (fun c7 => ?_)
  · replace h := h.1 c7
    refine z_iconst dX9_readEvent_60 (by decide) ?_
    refine z_callV (As := [z_i 0]) (rest := []) zmX9_takes znX9_takes zsX9_takes (show vwCl[9]? = some (RX9, TX9, 29) from rfl) zlRX9_215 ⟨Nat.le_of_ble_eq_true rfl, Nat.le_of_ble_eq_true rfl⟩ dX9_readEvent_61 hh0.1 rfl rfl (z_ai z_a0) (Nat.le_of_ble_eq_true rfl) (Nat.le_of_ble_eq_true rfl) ⟨Nat.le_refl _, Nat.le_refl _⟩ (z_CVm h ?_)
    intro w8 h
    show z_Sem mX9_readEvent (sh.length, 0) 64 [(1, z_i y6), (0, z_r 161)] [] (sh, w8) Q
    refine z_aload_n 1 dX9_readEvent_64 rfl rfl ?_
    refine z_aload_n 1 dX9_readEvent_65 rfl rfl ?_
    refine z_getI (ki := 20) zfRX9_205 dX9_readEvent_66 hh0.1 rfl rfl ?_
    suffices hJ9 : z_Sem mX9_readEvent (sh.length, 0) 85 [(0, z_r 161), (1, z_i y6)] [z_i (if (w8 161 20) = 0 then 0 else if (w8 161 17) = 3 then 1 else 0), z_r 161] (sh, w8) Q by
      refine z_if_eq (tgt := 84) dX9_readEvent_69 (by decide) (fun c10 => ?_) (fun c10 => ?_)
      · skip
        refine z_iconst dX9_readEvent_84 (by decide) ?_
        refine z_sub (L' := [(0, z_r 161), (1, z_i y6)]) [1, 0] rfl ?_
        simp only [if_pos c10] at hJ9
        exact hJ9
      · skip
        refine z_aload_n 1 dX9_readEvent_72 rfl rfl ?_
        refine z_getI (ki := 17) zfRX9_193 dX9_readEvent_73 hh0.1 rfl rfl ?_
        refine z_iconst dX9_readEvent_76 (by decide) ?_
        suffices hJ13 : z_Sem mX9_readEvent (sh.length, 0) 85 [(0, z_r 161), (1, z_i y6)] [z_i (if (w8 161 17) = 3 then 1 else 0), z_r 161] (sh, w8) Q by
          refine z_icmp_ne (tgt := 84) dX9_readEvent_77 (by decide) (fun c14 => ?_) (fun c14 => ?_)
          · skip
            refine z_iconst dX9_readEvent_84 (by decide) ?_
            refine z_sub (L' := [(0, z_r 161), (1, z_i y6)]) [1, 0] rfl ?_
            simp only [if_neg c14] at hJ13
            exact hJ13
          · skip
            refine z_iconst dX9_readEvent_80 (by decide) ?_
            refine z_goto (tgt := 85) dX9_readEvent_81 (by decide) ?_
            refine z_sub (L' := [(0, z_r 161), (1, z_i y6)]) [1, 0] rfl ?_
            simp only [if_pos c14] at hJ13
            exact hJ13
        simp only [if_neg c10] at hJ9
        exact hJ9
    refine z_callV (As := [z_i (if (w8 161 20) = 0 then 0 else if (w8 161 17) = 3 then 1 else 0)]) (rest := []) zmX9_takes znX9_takes zsX9_takes (show vwCl[9]? = some (RX9, TX9, 29) from rfl) zlRX9_215 ⟨Nat.le_of_ble_eq_true rfl, Nat.le_of_ble_eq_true rfl⟩ dX9_readEvent_85 hh0.1 rfl rfl (z_ai z_a0) (Nat.le_of_ble_eq_true rfl) (Nat.le_of_ble_eq_true rfl) ⟨Nat.le_refl _, Nat.le_refl _⟩ (z_CVm h ?_)
    intro w17 h
    show z_Sem mX9_readEvent (sh.length, 0) 88 [(0, z_r 161), (1, z_i y6)] [] (sh, w17) Q
    refine z_aload_n 0 dX9_readEvent_88 rfl rfl ?_
    refine z_getI (ki := 20) zfRX9_205 dX9_readEvent_89 hh0.1 rfl rfl ?_
    refine z_if_eq (tgt := 100) dX9_readEvent_92 (by decide) (fun c18 => ?_) (fun c18 => ?_)
    · replace h := h.1 c18
      exact z_ret (v := none) dX9_readEvent_100 ⟨rfl, rfl⟩ rfl rfl h
    · replace h := h.2 c18
      refine z_aload_n 0 dX9_readEvent_95 rfl rfl ?_
      refine z_iload_n 1 dX9_readEvent_96 rfl rfl ?_
      refine z_callV (As := [z_i y6]) (rest := []) zmX9_opens znX9_opens zsX9_opens (show vwCl[9]? = some (RX9, TX9, 29) from rfl) zlRX9_225 ⟨Nat.le_of_ble_eq_true rfl, Nat.le_of_ble_eq_true rfl⟩ dX9_readEvent_97 hh0.1 rfl rfl (z_ai z_a0) (Nat.le_of_ble_eq_true rfl) (Nat.le_of_ble_eq_true rfl) ⟨Nat.le_refl _, Nat.le_refl _⟩ (z_CVm h ?_)
      intro w19 h
      show z_Sem mX9_readEvent (sh.length, 0) 100 [(0, z_r 161), (1, z_i y6)] [] (sh, w19) Q
      exact z_ret (v := none) dX9_readEvent_100 ⟨rfl, rfl⟩ rfl rfl h
  · replace h := h.2 c7
    refine z_aload_n 1 dX9_readEvent_33 rfl rfl ?_
    refine z_getI (ki := 17) zfRX9_193 dX9_readEvent_34 hh0.1 rfl rfl ?_
    refine z_iconst dX9_readEvent_37 (by decide) ?_
    refine z_icmp_ne (tgt := 60) dX9_readEvent_38 (by decide) (fun c20 => ?_) (fun c20 => ?_)
    · replace h := h.2 c20
      refine z_iconst dX9_readEvent_60 (by decide) ?_
      refine z_callV (As := [z_i 0]) (rest := []) zmX9_takes znX9_takes zsX9_takes (show vwCl[9]? = some (RX9, TX9, 29) from rfl) zlRX9_215 ⟨Nat.le_of_ble_eq_true rfl, Nat.le_of_ble_eq_true rfl⟩ dX9_readEvent_61 hh0.1 rfl rfl (z_ai z_a0) (Nat.le_of_ble_eq_true rfl) (Nat.le_of_ble_eq_true rfl) ⟨Nat.le_refl _, Nat.le_refl _⟩ (z_CVm h ?_)
      intro w21 h
      show z_Sem mX9_readEvent (sh.length, 0) 64 [(1, z_i y6), (0, z_r 161)] [] (sh, w21) Q
      refine z_aload_n 1 dX9_readEvent_64 rfl rfl ?_
      refine z_aload_n 1 dX9_readEvent_65 rfl rfl ?_
      refine z_getI (ki := 20) zfRX9_205 dX9_readEvent_66 hh0.1 rfl rfl ?_
      suffices hJ22 : z_Sem mX9_readEvent (sh.length, 0) 85 [(0, z_r 161), (1, z_i y6)] [z_i (if (w21 161 20) = 0 then 0 else if (w21 161 17) = 3 then 1 else 0), z_r 161] (sh, w21) Q by
        refine z_if_eq (tgt := 84) dX9_readEvent_69 (by decide) (fun c23 => ?_) (fun c23 => ?_)
        · skip
          refine z_iconst dX9_readEvent_84 (by decide) ?_
          refine z_sub (L' := [(0, z_r 161), (1, z_i y6)]) [1, 0] rfl ?_
          simp only [if_pos c23] at hJ22
          exact hJ22
        · skip
          refine z_aload_n 1 dX9_readEvent_72 rfl rfl ?_
          refine z_getI (ki := 17) zfRX9_193 dX9_readEvent_73 hh0.1 rfl rfl ?_
          refine z_iconst dX9_readEvent_76 (by decide) ?_
          suffices hJ26 : z_Sem mX9_readEvent (sh.length, 0) 85 [(0, z_r 161), (1, z_i y6)] [z_i (if (w21 161 17) = 3 then 1 else 0), z_r 161] (sh, w21) Q by
            refine z_icmp_ne (tgt := 84) dX9_readEvent_77 (by decide) (fun c27 => ?_) (fun c27 => ?_)
            · skip
              refine z_iconst dX9_readEvent_84 (by decide) ?_
              refine z_sub (L' := [(0, z_r 161), (1, z_i y6)]) [1, 0] rfl ?_
              simp only [if_neg c27] at hJ26
              exact hJ26
            · skip
              refine z_iconst dX9_readEvent_80 (by decide) ?_
              refine z_goto (tgt := 85) dX9_readEvent_81 (by decide) ?_
              refine z_sub (L' := [(0, z_r 161), (1, z_i y6)]) [1, 0] rfl ?_
              simp only [if_pos c27] at hJ26
              exact hJ26
          simp only [if_neg c23] at hJ22
          exact hJ22
      refine z_callV (As := [z_i (if (w21 161 20) = 0 then 0 else if (w21 161 17) = 3 then 1 else 0)]) (rest := []) zmX9_takes znX9_takes zsX9_takes (show vwCl[9]? = some (RX9, TX9, 29) from rfl) zlRX9_215 ⟨Nat.le_of_ble_eq_true rfl, Nat.le_of_ble_eq_true rfl⟩ dX9_readEvent_85 hh0.1 rfl rfl (z_ai z_a0) (Nat.le_of_ble_eq_true rfl) (Nat.le_of_ble_eq_true rfl) ⟨Nat.le_refl _, Nat.le_refl _⟩ (z_CVm h ?_)
      intro w30 h
      show z_Sem mX9_readEvent (sh.length, 0) 88 [(0, z_r 161), (1, z_i y6)] [] (sh, w30) Q
      refine z_aload_n 0 dX9_readEvent_88 rfl rfl ?_
      refine z_getI (ki := 20) zfRX9_205 dX9_readEvent_89 hh0.1 rfl rfl ?_
      refine z_if_eq (tgt := 100) dX9_readEvent_92 (by decide) (fun c31 => ?_) (fun c31 => ?_)
      · replace h := h.1 c31
        exact z_ret (v := none) dX9_readEvent_100 ⟨rfl, rfl⟩ rfl rfl h
      · replace h := h.2 c31
        refine z_aload_n 0 dX9_readEvent_95 rfl rfl ?_
        refine z_iload_n 1 dX9_readEvent_96 rfl rfl ?_
        refine z_callV (As := [z_i y6]) (rest := []) zmX9_opens znX9_opens zsX9_opens (show vwCl[9]? = some (RX9, TX9, 29) from rfl) zlRX9_225 ⟨Nat.le_of_ble_eq_true rfl, Nat.le_of_ble_eq_true rfl⟩ dX9_readEvent_97 hh0.1 rfl rfl (z_ai z_a0) (Nat.le_of_ble_eq_true rfl) (Nat.le_of_ble_eq_true rfl) ⟨Nat.le_refl _, Nat.le_refl _⟩ (z_CVm h ?_)
        intro w32 h
        show z_Sem mX9_readEvent (sh.length, 0) 100 [(0, z_r 161), (1, z_i y6)] [] (sh, w32) Q
        exact z_ret (v := none) dX9_readEvent_100 ⟨rfl, rfl⟩ rfl rfl h
    · replace h := h.1 c20
      refine z_iload_n 0 dX9_readEvent_41 rfl rfl ?_
      refine z_callS (As := [z_i y6]) (rest := [z_r 161]) zmX9_isName ztX9_isName zlRX9_219 ⟨Nat.le_of_ble_eq_true rfl, Nat.le_of_ble_eq_true rfl⟩ dX9_readEvent_42 rfl rfl (z_ai z_a0) (Nat.le_of_ble_eq_true rfl) (Nat.le_of_ble_eq_true rfl) ⟨Nat.le_refl _, Nat.le_refl _⟩ (z_CIm h ?_)
      intro y34 w33 h
      show z_Sem mX9_readEvent (sh.length, 0) 45 [(1, z_i y6), (0, z_r 161)] [z_i y34, z_r 161] (sh, w33) Q
      refine z_if_eq (tgt := 60) dX9_readEvent_45 (by decide) (fun c35 => ?_) (fun c35 => ?_)
      · replace h := h.1 c35
        refine z_iconst dX9_readEvent_60 (by decide) ?_
        refine z_callV (As := [z_i 0]) (rest := []) zmX9_takes znX9_takes zsX9_takes (show vwCl[9]? = some (RX9, TX9, 29) from rfl) zlRX9_215 ⟨Nat.le_of_ble_eq_true rfl, Nat.le_of_ble_eq_true rfl⟩ dX9_readEvent_61 hh0.1 rfl rfl (z_ai z_a0) (Nat.le_of_ble_eq_true rfl) (Nat.le_of_ble_eq_true rfl) ⟨Nat.le_refl _, Nat.le_refl _⟩ (z_CVm h ?_)
        intro w36 h
        show z_Sem mX9_readEvent (sh.length, 0) 64 [(1, z_i y6), (0, z_r 161)] [] (sh, w36) Q
        refine z_aload_n 1 dX9_readEvent_64 rfl rfl ?_
        refine z_aload_n 1 dX9_readEvent_65 rfl rfl ?_
        refine z_getI (ki := 20) zfRX9_205 dX9_readEvent_66 hh0.1 rfl rfl ?_
        suffices hJ37 : z_Sem mX9_readEvent (sh.length, 0) 85 [(0, z_r 161), (1, z_i y6)] [z_i (if (w36 161 20) = 0 then 0 else if (w36 161 17) = 3 then 1 else 0), z_r 161] (sh, w36) Q by
          refine z_if_eq (tgt := 84) dX9_readEvent_69 (by decide) (fun c38 => ?_) (fun c38 => ?_)
          · skip
            refine z_iconst dX9_readEvent_84 (by decide) ?_
            refine z_sub (L' := [(0, z_r 161), (1, z_i y6)]) [1, 0] rfl ?_
            simp only [if_pos c38] at hJ37
            exact hJ37
          · skip
            refine z_aload_n 1 dX9_readEvent_72 rfl rfl ?_
            refine z_getI (ki := 17) zfRX9_193 dX9_readEvent_73 hh0.1 rfl rfl ?_
            refine z_iconst dX9_readEvent_76 (by decide) ?_
            suffices hJ41 : z_Sem mX9_readEvent (sh.length, 0) 85 [(0, z_r 161), (1, z_i y6)] [z_i (if (w36 161 17) = 3 then 1 else 0), z_r 161] (sh, w36) Q by
              refine z_icmp_ne (tgt := 84) dX9_readEvent_77 (by decide) (fun c42 => ?_) (fun c42 => ?_)
              · skip
                refine z_iconst dX9_readEvent_84 (by decide) ?_
                refine z_sub (L' := [(0, z_r 161), (1, z_i y6)]) [1, 0] rfl ?_
                simp only [if_neg c42] at hJ41
                exact hJ41
              · skip
                refine z_iconst dX9_readEvent_80 (by decide) ?_
                refine z_goto (tgt := 85) dX9_readEvent_81 (by decide) ?_
                refine z_sub (L' := [(0, z_r 161), (1, z_i y6)]) [1, 0] rfl ?_
                simp only [if_pos c42] at hJ41
                exact hJ41
            simp only [if_neg c38] at hJ37
            exact hJ37
        refine z_callV (As := [z_i (if (w36 161 20) = 0 then 0 else if (w36 161 17) = 3 then 1 else 0)]) (rest := []) zmX9_takes znX9_takes zsX9_takes (show vwCl[9]? = some (RX9, TX9, 29) from rfl) zlRX9_215 ⟨Nat.le_of_ble_eq_true rfl, Nat.le_of_ble_eq_true rfl⟩ dX9_readEvent_85 hh0.1 rfl rfl (z_ai z_a0) (Nat.le_of_ble_eq_true rfl) (Nat.le_of_ble_eq_true rfl) ⟨Nat.le_refl _, Nat.le_refl _⟩ (z_CVm h ?_)
        intro w45 h
        show z_Sem mX9_readEvent (sh.length, 0) 88 [(0, z_r 161), (1, z_i y6)] [] (sh, w45) Q
        refine z_aload_n 0 dX9_readEvent_88 rfl rfl ?_
        refine z_getI (ki := 20) zfRX9_205 dX9_readEvent_89 hh0.1 rfl rfl ?_
        refine z_if_eq (tgt := 100) dX9_readEvent_92 (by decide) (fun c46 => ?_) (fun c46 => ?_)
        · replace h := h.1 c46
          exact z_ret (v := none) dX9_readEvent_100 ⟨rfl, rfl⟩ rfl rfl h
        · replace h := h.2 c46
          refine z_aload_n 0 dX9_readEvent_95 rfl rfl ?_
          refine z_iload_n 1 dX9_readEvent_96 rfl rfl ?_
          refine z_callV (As := [z_i y6]) (rest := []) zmX9_opens znX9_opens zsX9_opens (show vwCl[9]? = some (RX9, TX9, 29) from rfl) zlRX9_225 ⟨Nat.le_of_ble_eq_true rfl, Nat.le_of_ble_eq_true rfl⟩ dX9_readEvent_97 hh0.1 rfl rfl (z_ai z_a0) (Nat.le_of_ble_eq_true rfl) (Nat.le_of_ble_eq_true rfl) ⟨Nat.le_refl _, Nat.le_refl _⟩ (z_CVm h ?_)
          intro w47 h
          show z_Sem mX9_readEvent (sh.length, 0) 100 [(0, z_r 161), (1, z_i y6)] [] (sh, w47) Q
          exact z_ret (v := none) dX9_readEvent_100 ⟨rfl, rfl⟩ rfl rfl h
      · replace h := h.2 c35
        refine z_aload_n 1 dX9_readEvent_48 rfl rfl ?_
        refine z_iload_n 0 dX9_readEvent_49 rfl rfl ?_
        refine z_callV (As := [z_i y6]) (rest := [z_r 161]) zmX9_named znX9_named zsX9_named (show vwCl[9]? = some (RX9, TX9, 29) from rfl) zlRX9_222 ⟨Nat.le_of_ble_eq_true rfl, Nat.le_of_ble_eq_true rfl⟩ dX9_readEvent_50 hh0.1 rfl rfl (z_ai z_a0) (Nat.le_of_ble_eq_true rfl) (Nat.le_of_ble_eq_true rfl) ⟨Nat.le_refl _, Nat.le_refl _⟩ (z_CIm h ?_)
        intro y49 w48 h
        show z_Sem mX9_readEvent (sh.length, 0) 53 [(1, z_i y6), (0, z_r 161)] [z_i y49, z_r 161] (sh, w48) Q
        suffices hJ50 : z_Sem mX9_readEvent (sh.length, 0) 61 [(0, z_r 161), (1, z_i y6)] [z_i (if 0 ≤ y49 then 0 else 1), z_r 161] (sh, w48) Q by
          refine z_if_ge (tgt := 60) dX9_readEvent_53 (by decide) (fun c51 => ?_) (fun c51 => ?_)
          · skip
            refine z_iconst dX9_readEvent_60 (by decide) ?_
            refine z_sub (L' := [(0, z_r 161), (1, z_i y6)]) [1, 0] rfl ?_
            simp only [if_pos c51] at hJ50
            exact hJ50
          · skip
            refine z_iconst dX9_readEvent_56 (by decide) ?_
            refine z_goto (tgt := 61) dX9_readEvent_57 (by decide) ?_
            refine z_sub (L' := [(0, z_r 161), (1, z_i y6)]) [1, 0] rfl ?_
            simp only [if_neg c51] at hJ50
            exact hJ50
        refine z_callV (As := [z_i (if 0 ≤ y49 then 0 else 1)]) (rest := []) zmX9_takes znX9_takes zsX9_takes (show vwCl[9]? = some (RX9, TX9, 29) from rfl) zlRX9_215 ⟨Nat.le_of_ble_eq_true rfl, Nat.le_of_ble_eq_true rfl⟩ dX9_readEvent_61 hh0.1 rfl rfl (z_ai z_a0) (Nat.le_of_ble_eq_true rfl) (Nat.le_of_ble_eq_true rfl) ⟨Nat.le_refl _, Nat.le_refl _⟩ (z_CVm h ?_)
        intro w54 h
        show z_Sem mX9_readEvent (sh.length, 0) 64 [(0, z_r 161), (1, z_i y6)] [] (sh, w54) Q
        refine z_aload_n 0 dX9_readEvent_64 rfl rfl ?_
        refine z_aload_n 0 dX9_readEvent_65 rfl rfl ?_
        refine z_getI (ki := 20) zfRX9_205 dX9_readEvent_66 hh0.1 rfl rfl ?_
        suffices hJ55 : z_Sem mX9_readEvent (sh.length, 0) 85 [(0, z_r 161), (1, z_i y6)] [z_i (if (w54 161 20) = 0 then 0 else if (w54 161 17) = 3 then 1 else 0), z_r 161] (sh, w54) Q by
          refine z_if_eq (tgt := 84) dX9_readEvent_69 (by decide) (fun c56 => ?_) (fun c56 => ?_)
          · skip
            refine z_iconst dX9_readEvent_84 (by decide) ?_
            simp only [if_pos c56] at hJ55
            exact hJ55
          · skip
            refine z_aload_n 0 dX9_readEvent_72 rfl rfl ?_
            refine z_getI (ki := 17) zfRX9_193 dX9_readEvent_73 hh0.1 rfl rfl ?_
            refine z_iconst dX9_readEvent_76 (by decide) ?_
            suffices hJ59 : z_Sem mX9_readEvent (sh.length, 0) 85 [(0, z_r 161), (1, z_i y6)] [z_i (if (w54 161 17) = 3 then 1 else 0), z_r 161] (sh, w54) Q by
              refine z_icmp_ne (tgt := 84) dX9_readEvent_77 (by decide) (fun c60 => ?_) (fun c60 => ?_)
              · skip
                refine z_iconst dX9_readEvent_84 (by decide) ?_
                simp only [if_neg c60] at hJ59
                exact hJ59
              · skip
                refine z_iconst dX9_readEvent_80 (by decide) ?_
                refine z_goto (tgt := 85) dX9_readEvent_81 (by decide) ?_
                simp only [if_pos c60] at hJ59
                exact hJ59
            simp only [if_neg c56] at hJ55
            exact hJ55
        refine z_callV (As := [z_i (if (w54 161 20) = 0 then 0 else if (w54 161 17) = 3 then 1 else 0)]) (rest := []) zmX9_takes znX9_takes zsX9_takes (show vwCl[9]? = some (RX9, TX9, 29) from rfl) zlRX9_215 ⟨Nat.le_of_ble_eq_true rfl, Nat.le_of_ble_eq_true rfl⟩ dX9_readEvent_85 hh0.1 rfl rfl (z_ai z_a0) (Nat.le_of_ble_eq_true rfl) (Nat.le_of_ble_eq_true rfl) ⟨Nat.le_refl _, Nat.le_refl _⟩ (z_CVm h ?_)
        intro w63 h
        show z_Sem mX9_readEvent (sh.length, 0) 88 [(0, z_r 161), (1, z_i y6)] [] (sh, w63) Q
        refine z_aload_n 0 dX9_readEvent_88 rfl rfl ?_
        refine z_getI (ki := 20) zfRX9_205 dX9_readEvent_89 hh0.1 rfl rfl ?_
        refine z_if_eq (tgt := 100) dX9_readEvent_92 (by decide) (fun c64 => ?_) (fun c64 => ?_)
        · replace h := h.1 c64
          exact z_ret (v := none) dX9_readEvent_100 ⟨rfl, rfl⟩ rfl rfl h
        · replace h := h.2 c64
          refine z_aload_n 0 dX9_readEvent_95 rfl rfl ?_
          refine z_iload_n 1 dX9_readEvent_96 rfl rfl ?_
          refine z_callV (As := [z_i y6]) (rest := []) zmX9_opens znX9_opens zsX9_opens (show vwCl[9]? = some (RX9, TX9, 29) from rfl) zlRX9_225 ⟨Nat.le_of_ble_eq_true rfl, Nat.le_of_ble_eq_true rfl⟩ dX9_readEvent_97 hh0.1 rfl rfl (z_ai z_a0) (Nat.le_of_ble_eq_true rfl) (Nat.le_of_ble_eq_true rfl) ⟨Nat.le_refl _, Nat.le_refl _⟩ (z_CVm h ?_)
          intro w65 h
          show z_Sem mX9_readEvent (sh.length, 0) 100 [(0, z_r 161), (1, z_i y6)] [] (sh, w65) Q
          exact z_ret (v := none) dX9_readEvent_100 ⟨rfl, rfl⟩ rfl rfl h
set_option maxRecDepth 100000 in
theorem t_X9_readEventName {sh : List z_C} {w : Nat → Int → Int} {Q : Option z_V → z_S → Prop} {x1 : Int} (hh0 : z_isMod sh 161) (h : (((w 161 20) = 0 → z_CV mX9_takes [z_r 161, z_i (if (-2) < 0 then 0 else if (-2) = x1 then 0 else 1)] sh w (fun w10 => Q (some (z_i (if (w10 161 20) = 0 then 0 else -2))) (sh, w10))) ∧ (¬ (w 161 20) = 0 → (((w 161 17) = 1 → z_CI mX9_named [z_r 161, z_i (w 161 18)] sh w (fun y30 w29 => z_CV mX9_takes [z_r 161, z_i (if y30 < 0 then 0 else if y30 = x1 then 0 else 1)] sh w29 (fun w39 => Q (some (z_i (if (w39 161 20) = 0 then 0 else y30))) (sh, w39)))) ∧ (¬ (w 161 17) = 1 → z_CV mX9_takes [z_r 161, z_i (if (-2) < 0 then 0 else if (-2) = x1 then 0 else 1)] sh w (fun w24 => Q (some (z_i (if (w24 161 20) = 0 then 0 else -2))) (sh, w24))))))) : z_Sem mX9_readEventName (sh.length, 0) 0 [(0, z_r 161), (1, z_i x1)] [] (sh, w) Q := by
  refine z_aload_n 0 dX9_readEventName_0 rfl rfl ?_
  refine z_getI (ki := 20) zfRX9_205 dX9_readEventName_1 hh0.1 rfl rfl ?_
  refine z_if_eq (tgt := 26) dX9_readEventName_4 (by decide) (fun c1 => ?_) (fun c1 => ?_)
  · replace h := h.1 c1
    refine z_bipush dX9_readEventName_26 (by decide) (by decide) ?_
    refine z_istore_n (L' := [(2, z_i (-2)), (0, z_r 161), (1, z_i x1)]) dX9_readEventName_28 rfl (by decide) rfl ?_
    refine z_aload_n 1 dX9_readEventName_29 rfl rfl ?_
    refine z_iload_n 0 dX9_readEventName_30 rfl rfl ?_
    suffices hJ2 : z_Sem mX9_readEventName (sh.length, 0) 44 [(0, z_r 161), (2, z_i (-2))] [z_i (if (-2) < 0 then 0 else if (-2) = x1 then 0 else 1), z_r 161] (sh, w) Q by
      refine z_if_lt (tgt := 43) dX9_readEventName_31 (by decide) (fun c3 => ?_) (fun c3 => ?_)
      · skip
        refine z_iconst dX9_readEventName_43 (by decide) ?_
        refine z_sub (L' := [(0, z_r 161), (2, z_i (-2))]) [1, 0] rfl ?_
        simp only [if_pos c3] at hJ2
        exact hJ2
      · skip
        refine z_iload_n 0 dX9_readEventName_34 rfl rfl ?_
        refine z_iload_n 2 dX9_readEventName_35 rfl rfl ?_
        suffices hJ6 : z_Sem mX9_readEventName (sh.length, 0) 44 [(0, z_r 161), (2, z_i (-2))] [z_i (if (-2) = x1 then 0 else 1), z_r 161] (sh, w) Q by
          refine z_icmp_eq (tgt := 43) dX9_readEventName_36 (by decide) (fun c7 => ?_) (fun c7 => ?_)
          · skip
            refine z_iconst dX9_readEventName_43 (by decide) ?_
            refine z_sub (L' := [(0, z_r 161), (2, z_i (-2))]) [1, 0] rfl ?_
            simp only [if_pos c7] at hJ6
            exact hJ6
          · skip
            refine z_iconst dX9_readEventName_39 (by decide) ?_
            refine z_goto (tgt := 44) dX9_readEventName_40 (by decide) ?_
            refine z_sub (L' := [(0, z_r 161), (2, z_i (-2))]) [1, 0] rfl ?_
            simp only [if_neg c7] at hJ6
            exact hJ6
        simp only [if_neg c3] at hJ2
        exact hJ2
    refine z_callV (As := [z_i (if (-2) < 0 then 0 else if (-2) = x1 then 0 else 1)]) (rest := []) zmX9_takes znX9_takes zsX9_takes (show vwCl[9]? = some (RX9, TX9, 29) from rfl) zlRX9_215 ⟨Nat.le_of_ble_eq_true rfl, Nat.le_of_ble_eq_true rfl⟩ dX9_readEventName_44 hh0.1 rfl rfl (z_ai z_a0) (Nat.le_of_ble_eq_true rfl) (Nat.le_of_ble_eq_true rfl) ⟨Nat.le_refl _, Nat.le_refl _⟩ (z_CVm h ?_)
    intro w10 h
    show z_Sem mX9_readEventName (sh.length, 0) 47 [(0, z_r 161), (2, z_i (-2))] [] (sh, w10) Q
    refine z_aload_n 0 dX9_readEventName_47 rfl rfl ?_
    refine z_getI (ki := 20) zfRX9_205 dX9_readEventName_48 hh0.1 rfl rfl ?_
    suffices hJ11 : z_Sem mX9_readEventName (sh.length, 0) 59 [] [z_i (if (w10 161 20) = 0 then 0 else -2)] (sh, w10) Q by
      refine z_if_eq (tgt := 58) dX9_readEventName_51 (by decide) (fun c12 => ?_) (fun c12 => ?_)
      · skip
        refine z_iconst dX9_readEventName_58 (by decide) ?_
        refine z_sub (L' := []) [] rfl ?_
        simp only [if_pos c12] at hJ11
        exact hJ11
      · skip
        refine z_iload_n 1 dX9_readEventName_54 rfl rfl ?_
        refine z_goto (tgt := 59) dX9_readEventName_55 (by decide) ?_
        refine z_sub (L' := []) [] rfl ?_
        simp only [if_neg c12] at hJ11
        exact hJ11
    exact z_ret (v := some (z_i (if (w10 161 20) = 0 then 0 else -2))) dX9_readEventName_59 ⟨rfl, Or.inl rfl⟩ rfl rfl h
  · replace h := h.2 c1
    refine z_aload_n 0 dX9_readEventName_7 rfl rfl ?_
    refine z_getI (ki := 17) zfRX9_193 dX9_readEventName_8 hh0.1 rfl rfl ?_
    refine z_iconst dX9_readEventName_11 (by decide) ?_
    refine z_icmp_ne (tgt := 26) dX9_readEventName_12 (by decide) (fun c15 => ?_) (fun c15 => ?_)
    · replace h := h.2 c15
      refine z_bipush dX9_readEventName_26 (by decide) (by decide) ?_
      refine z_istore_n (L' := [(2, z_i (-2)), (0, z_r 161), (1, z_i x1)]) dX9_readEventName_28 rfl (by decide) rfl ?_
      refine z_aload_n 1 dX9_readEventName_29 rfl rfl ?_
      refine z_iload_n 0 dX9_readEventName_30 rfl rfl ?_
      suffices hJ16 : z_Sem mX9_readEventName (sh.length, 0) 44 [(0, z_r 161), (2, z_i (-2))] [z_i (if (-2) < 0 then 0 else if (-2) = x1 then 0 else 1), z_r 161] (sh, w) Q by
        refine z_if_lt (tgt := 43) dX9_readEventName_31 (by decide) (fun c17 => ?_) (fun c17 => ?_)
        · skip
          refine z_iconst dX9_readEventName_43 (by decide) ?_
          refine z_sub (L' := [(0, z_r 161), (2, z_i (-2))]) [1, 0] rfl ?_
          simp only [if_pos c17] at hJ16
          exact hJ16
        · skip
          refine z_iload_n 0 dX9_readEventName_34 rfl rfl ?_
          refine z_iload_n 2 dX9_readEventName_35 rfl rfl ?_
          suffices hJ20 : z_Sem mX9_readEventName (sh.length, 0) 44 [(0, z_r 161), (2, z_i (-2))] [z_i (if (-2) = x1 then 0 else 1), z_r 161] (sh, w) Q by
            refine z_icmp_eq (tgt := 43) dX9_readEventName_36 (by decide) (fun c21 => ?_) (fun c21 => ?_)
            · skip
              refine z_iconst dX9_readEventName_43 (by decide) ?_
              refine z_sub (L' := [(0, z_r 161), (2, z_i (-2))]) [1, 0] rfl ?_
              simp only [if_pos c21] at hJ20
              exact hJ20
            · skip
              refine z_iconst dX9_readEventName_39 (by decide) ?_
              refine z_goto (tgt := 44) dX9_readEventName_40 (by decide) ?_
              refine z_sub (L' := [(0, z_r 161), (2, z_i (-2))]) [1, 0] rfl ?_
              simp only [if_neg c21] at hJ20
              exact hJ20
          simp only [if_neg c17] at hJ16
          exact hJ16
      refine z_callV (As := [z_i (if (-2) < 0 then 0 else if (-2) = x1 then 0 else 1)]) (rest := []) zmX9_takes znX9_takes zsX9_takes (show vwCl[9]? = some (RX9, TX9, 29) from rfl) zlRX9_215 ⟨Nat.le_of_ble_eq_true rfl, Nat.le_of_ble_eq_true rfl⟩ dX9_readEventName_44 hh0.1 rfl rfl (z_ai z_a0) (Nat.le_of_ble_eq_true rfl) (Nat.le_of_ble_eq_true rfl) ⟨Nat.le_refl _, Nat.le_refl _⟩ (z_CVm h ?_)
      intro w24 h
      show z_Sem mX9_readEventName (sh.length, 0) 47 [(0, z_r 161), (2, z_i (-2))] [] (sh, w24) Q
      refine z_aload_n 0 dX9_readEventName_47 rfl rfl ?_
      refine z_getI (ki := 20) zfRX9_205 dX9_readEventName_48 hh0.1 rfl rfl ?_
      suffices hJ25 : z_Sem mX9_readEventName (sh.length, 0) 59 [] [z_i (if (w24 161 20) = 0 then 0 else -2)] (sh, w24) Q by
        refine z_if_eq (tgt := 58) dX9_readEventName_51 (by decide) (fun c26 => ?_) (fun c26 => ?_)
        · skip
          refine z_iconst dX9_readEventName_58 (by decide) ?_
          refine z_sub (L' := []) [] rfl ?_
          simp only [if_pos c26] at hJ25
          exact hJ25
        · skip
          refine z_iload_n 1 dX9_readEventName_54 rfl rfl ?_
          refine z_goto (tgt := 59) dX9_readEventName_55 (by decide) ?_
          refine z_sub (L' := []) [] rfl ?_
          simp only [if_neg c26] at hJ25
          exact hJ25
      exact z_ret (v := some (z_i (if (w24 161 20) = 0 then 0 else -2))) dX9_readEventName_59 ⟨rfl, Or.inl rfl⟩ rfl rfl h
    · replace h := h.1 c15
      refine z_aload_n 0 dX9_readEventName_15 rfl rfl ?_
      refine z_aload_n 0 dX9_readEventName_16 rfl rfl ?_
      refine z_getI (ki := 18) zfRX9_184 dX9_readEventName_17 hh0.1 rfl rfl ?_
      refine z_callV (As := [z_i (w 161 18)]) (rest := []) zmX9_named znX9_named zsX9_named (show vwCl[9]? = some (RX9, TX9, 29) from rfl) zlRX9_222 ⟨Nat.le_of_ble_eq_true rfl, Nat.le_of_ble_eq_true rfl⟩ dX9_readEventName_20 hh0.1 rfl rfl (z_ai z_a0) (Nat.le_of_ble_eq_true rfl) (Nat.le_of_ble_eq_true rfl) ⟨Nat.le_refl _, Nat.le_refl _⟩ (z_CIm h ?_)
      intro y30 w29 h
      show z_Sem mX9_readEventName (sh.length, 0) 23 [(0, z_r 161), (1, z_i x1)] [z_i y30] (sh, w29) Q
      refine z_goto (tgt := 28) dX9_readEventName_23 (by decide) ?_
      refine z_istore_n (L' := [(2, z_i y30), (0, z_r 161), (1, z_i x1)]) dX9_readEventName_28 rfl (by decide) rfl ?_
      refine z_aload_n 1 dX9_readEventName_29 rfl rfl ?_
      refine z_iload_n 0 dX9_readEventName_30 rfl rfl ?_
      suffices hJ31 : z_Sem mX9_readEventName (sh.length, 0) 44 [(0, z_r 161), (2, z_i y30)] [z_i (if y30 < 0 then 0 else if y30 = x1 then 0 else 1), z_r 161] (sh, w29) Q by
        refine z_if_lt (tgt := 43) dX9_readEventName_31 (by decide) (fun c32 => ?_) (fun c32 => ?_)
        · skip
          refine z_iconst dX9_readEventName_43 (by decide) ?_
          refine z_sub (L' := [(0, z_r 161), (2, z_i y30)]) [1, 0] rfl ?_
          simp only [if_pos c32] at hJ31
          exact hJ31
        · skip
          refine z_iload_n 0 dX9_readEventName_34 rfl rfl ?_
          refine z_iload_n 2 dX9_readEventName_35 rfl rfl ?_
          suffices hJ35 : z_Sem mX9_readEventName (sh.length, 0) 44 [(0, z_r 161), (2, z_i y30)] [z_i (if y30 = x1 then 0 else 1), z_r 161] (sh, w29) Q by
            refine z_icmp_eq (tgt := 43) dX9_readEventName_36 (by decide) (fun c36 => ?_) (fun c36 => ?_)
            · skip
              refine z_iconst dX9_readEventName_43 (by decide) ?_
              refine z_sub (L' := [(0, z_r 161), (2, z_i y30)]) [1, 0] rfl ?_
              simp only [if_pos c36] at hJ35
              exact hJ35
            · skip
              refine z_iconst dX9_readEventName_39 (by decide) ?_
              refine z_goto (tgt := 44) dX9_readEventName_40 (by decide) ?_
              refine z_sub (L' := [(0, z_r 161), (2, z_i y30)]) [1, 0] rfl ?_
              simp only [if_neg c36] at hJ35
              exact hJ35
          simp only [if_neg c32] at hJ31
          exact hJ31
      refine z_callV (As := [z_i (if y30 < 0 then 0 else if y30 = x1 then 0 else 1)]) (rest := []) zmX9_takes znX9_takes zsX9_takes (show vwCl[9]? = some (RX9, TX9, 29) from rfl) zlRX9_215 ⟨Nat.le_of_ble_eq_true rfl, Nat.le_of_ble_eq_true rfl⟩ dX9_readEventName_44 hh0.1 rfl rfl (z_ai z_a0) (Nat.le_of_ble_eq_true rfl) (Nat.le_of_ble_eq_true rfl) ⟨Nat.le_refl _, Nat.le_refl _⟩ (z_CVm h ?_)
      intro w39 h
      show z_Sem mX9_readEventName (sh.length, 0) 47 [(0, z_r 161), (2, z_i y30)] [] (sh, w39) Q
      refine z_aload_n 0 dX9_readEventName_47 rfl rfl ?_
      refine z_getI (ki := 20) zfRX9_205 dX9_readEventName_48 hh0.1 rfl rfl ?_
      suffices hJ40 : z_Sem mX9_readEventName (sh.length, 0) 59 [] [z_i (if (w39 161 20) = 0 then 0 else y30)] (sh, w39) Q by
        refine z_if_eq (tgt := 58) dX9_readEventName_51 (by decide) (fun c41 => ?_) (fun c41 => ?_)
        · skip
          refine z_iconst dX9_readEventName_58 (by decide) ?_
          refine z_sub (L' := []) [] rfl ?_
          simp only [if_pos c41] at hJ40
          exact hJ40
        · skip
          refine z_iload_n 1 dX9_readEventName_54 rfl rfl ?_
          refine z_goto (tgt := 59) dX9_readEventName_55 (by decide) ?_
          refine z_sub (L' := []) [] rfl ?_
          simp only [if_neg c41] at hJ40
          exact hJ40
      exact z_ret (v := some (z_i (if (w39 161 20) = 0 then 0 else y30))) dX9_readEventName_59 ⟨rfl, Or.inl rfl⟩ rfl rfl h
set_option maxRecDepth 100000 in
theorem t_X9_readGap {sh : List z_C} {w : Nat → Int → Int} {Q : Option z_V → z_S → Prop}  (hh0 : z_isMod sh 161) (h : z_CV mX9_takes [z_r 161, z_i (if 24 ≤ (w 163 2) then 0 else 1)] sh w (fun w5 => z_CI mX9_readEventName [z_r 161, z_i (-2)] sh w5 (fun y7 w6 => z_CI mX9_readEventName [z_r 161, z_i y7] sh w6 (fun y9 w8 => ∀ y14 : Int, y14 = (if (f_X9_isKey w8 12748404) = 0 then 0 else 1) → z_CV mX9_takes [z_r 161, z_i (if (f_X9_isKey w8 441972) = 0 then (if (f_X9_isKey w8 12748404) = 0 then 0 else 1) else 1)] sh w8 (fun w23 => z_CI mX9_numberIn [z_r 161, z_i 0, z_i 999] sh w23 (fun y25 w24 => ∀ y26 : Int, y26 = (f_X9_isKey w24 15558) → ((y26 = 0 → (((w24 161 20) = 0 → (((w24 161 20) = 0 → z_CV mX9_takes [z_r 161, z_i 0] sh w24 (fun w30 => Q none (sh, w30))) ∧ (¬ (w24 161 20) = 0 → (((w24 161 17) = 3 → z_CI mX9_lays [z_r 161] sh w24 (fun y34 w33 => z_CV mX9_takes [z_r 161, z_i (if y34 = 0 then 0 else 1)] sh w33 (fun w39 => Q none (sh, w39)))) ∧ (¬ (w24 161 17) = 3 → z_CV mX9_takes [z_r 161, z_i 0] sh w24 (fun w32 => Q none (sh, w32))))))) ∧ (¬ (w24 161 20) = 0 → z_CI mX9_comes [z_r 161, z_i y7, z_i y9, z_i y14, z_i y25, z_i (if y26 = 0 then 1 else 0)] sh w24 (fun y45 w44 => (((w44 161 20) = 0 → z_CV mX9_takes [z_r 161, z_i 0] sh w44 (fun w47 => Q none (sh, w47))) ∧ (¬ (w44 161 20) = 0 → (((w44 161 17) = 3 → z_CI mX9_lays [z_r 161] sh w44 (fun y51 w50 => z_CV mX9_takes [z_r 161, z_i (if y51 = 0 then 0 else 1)] sh w50 (fun w56 => Q none (sh, w56)))) ∧ (¬ (w44 161 17) = 3 → z_CV mX9_takes [z_r 161, z_i 0] sh w44 (fun w49 => Q none (sh, w49)))))))))) ∧ (¬ y26 = 0 → z_CV mX9_takes [z_r 161, z_i 1] sh w24 (fun w57 => (((w57 161 20) = 0 → (((w57 161 20) = 0 → z_CV mX9_takes [z_r 161, z_i 0] sh w57 (fun w60 => Q none (sh, w60))) ∧ (¬ (w57 161 20) = 0 → (((w57 161 17) = 3 → z_CI mX9_lays [z_r 161] sh w57 (fun y64 w63 => z_CV mX9_takes [z_r 161, z_i (if y64 = 0 then 0 else 1)] sh w63 (fun w69 => Q none (sh, w69)))) ∧ (¬ (w57 161 17) = 3 → z_CV mX9_takes [z_r 161, z_i 0] sh w57 (fun w62 => Q none (sh, w62))))))) ∧ (¬ (w57 161 20) = 0 → z_CI mX9_comes [z_r 161, z_i y7, z_i y9, z_i y14, z_i y25, z_i (if y26 = 0 then 1 else 0)] sh w57 (fun y75 w74 => (((w74 161 20) = 0 → z_CV mX9_takes [z_r 161, z_i 0] sh w74 (fun w77 => Q none (sh, w77))) ∧ (¬ (w74 161 20) = 0 → (((w74 161 17) = 3 → z_CI mX9_lays [z_r 161] sh w74 (fun y81 w80 => z_CV mX9_takes [z_r 161, z_i (if y81 = 0 then 0 else 1)] sh w80 (fun w86 => Q none (sh, w86)))) ∧ (¬ (w74 161 17) = 3 → z_CV mX9_takes [z_r 161, z_i 0] sh w74 (fun w79 => Q none (sh, w79)))))))))))))))))) : z_Sem mX9_readGap (sh.length, 0) 0 [(0, z_r 161)] [] (sh, w) Q := by
  refine z_aload_n 0 dX9_readGap_0 rfl rfl ?_
  refine z_aload_n 0 dX9_readGap_1 rfl rfl ?_
  refine z_getR (r := 163) zfRX9_17 dX9_readGap_2 hh0.1 rfl ?_
  refine z_iconst dX9_readGap_5 (by decide) ?_
  refine z_iald dX9_readGap_6 hh0.2.2.1 (by decide) ?_
  refine z_bipush dX9_readGap_7 (by decide) (by decide) ?_
  suffices hJ1 : z_Sem mX9_readGap (sh.length, 0) 17 [(0, z_r 161)] [z_i (if 24 ≤ (w 163 2) then 0 else 1), z_r 161] (sh, w) Q by
    refine z_icmp_ge (tgt := 16) dX9_readGap_9 (by decide) (fun c2 => ?_) (fun c2 => ?_)
    · skip
      refine z_iconst dX9_readGap_16 (by decide) ?_
      simp only [if_pos c2] at hJ1
      exact hJ1
    · skip
      refine z_iconst dX9_readGap_12 (by decide) ?_
      refine z_goto (tgt := 17) dX9_readGap_13 (by decide) ?_
      simp only [if_neg c2] at hJ1
      exact hJ1
  refine z_callV (As := [z_i (if 24 ≤ (w 163 2) then 0 else 1)]) (rest := []) zmX9_takes znX9_takes zsX9_takes (show vwCl[9]? = some (RX9, TX9, 29) from rfl) zlRX9_215 ⟨Nat.le_of_ble_eq_true rfl, Nat.le_of_ble_eq_true rfl⟩ dX9_readGap_17 hh0.1 rfl rfl (z_ai z_a0) (Nat.le_of_ble_eq_true rfl) (Nat.le_of_ble_eq_true rfl) ⟨Nat.le_refl _, Nat.le_refl _⟩ (z_CVm h ?_)
  intro w5 h
  show z_Sem mX9_readGap (sh.length, 0) 20 [(0, z_r 161)] [] (sh, w5) Q
  refine z_aload_n 0 dX9_readGap_20 rfl rfl ?_
  refine z_bipush dX9_readGap_21 (by decide) (by decide) ?_
  refine z_callV (As := [z_i (-2)]) (rest := []) zmX9_readEventName znX9_readEventName zsX9_readEventName (show vwCl[9]? = some (RX9, TX9, 29) from rfl) zlRX9_228 ⟨Nat.le_of_ble_eq_true rfl, Nat.le_of_ble_eq_true rfl⟩ dX9_readGap_23 hh0.1 rfl rfl (z_ai z_a0) (Nat.le_of_ble_eq_true rfl) (Nat.le_of_ble_eq_true rfl) ⟨Nat.le_refl _, Nat.le_refl _⟩ (z_CIm h ?_)
  intro y7 w6 h
  show z_Sem mX9_readGap (sh.length, 0) 26 [(0, z_r 161)] [z_i y7] (sh, w6) Q
  refine z_istore_n (L' := [(1, z_i y7), (0, z_r 161)]) dX9_readGap_26 rfl (by decide) rfl ?_
  refine z_aload_n 1 dX9_readGap_27 rfl rfl ?_
  refine z_iload_n 0 dX9_readGap_28 rfl rfl ?_
  refine z_callV (As := [z_i y7]) (rest := []) zmX9_readEventName znX9_readEventName zsX9_readEventName (show vwCl[9]? = some (RX9, TX9, 29) from rfl) zlRX9_228 ⟨Nat.le_of_ble_eq_true rfl, Nat.le_of_ble_eq_true rfl⟩ dX9_readGap_29 hh0.1 rfl rfl (z_ai z_a0) (Nat.le_of_ble_eq_true rfl) (Nat.le_of_ble_eq_true rfl) ⟨Nat.le_refl _, Nat.le_refl _⟩ (z_CIm h ?_)
  intro y9 w8 h
  show z_Sem mX9_readGap (sh.length, 0) 32 [(1, z_i y7), (0, z_r 161)] [z_i y9] (sh, w8) Q
  refine z_istore_n (L' := [(2, z_i y9), (1, z_i y7), (0, z_r 161)]) dX9_readGap_32 rfl (by decide) rfl ?_
  refine z_aload_n 2 dX9_readGap_33 rfl rfl ?_
  refine z_ldc (n := 12748404) zkRX9_231 dX9_readGap_34 (by decide) (by decide) ?_
  refine z_callV (As := [z_i 12748404]) (rest := []) zmX9_isKey znX9_isKey zsX9_isKey (show vwCl[9]? = some (RX9, TX9, 29) from rfl) zlRX9_232 ⟨Nat.le_of_ble_eq_true rfl, Nat.le_of_ble_eq_true rfl⟩ dX9_readGap_36 hh0.1 rfl rfl (z_ai z_a0) (Nat.le_of_ble_eq_true rfl) (Nat.le_of_ble_eq_true rfl) ⟨Nat.le_refl _, Nat.le_refl _⟩ ?_
  refine t_X9_isKey hh0 ?_
  show z_Sem mX9_readGap (sh.length, 0) 39 [(2, z_i y9), (1, z_i y7), (0, z_r 161)] [z_i (f_X9_isKey w8 12748404)] (sh, w8) Q
  suffices hJ10 : z_Sem mX9_readGap (sh.length, 0) 47 [(0, z_r 161), (1, z_i y7), (2, z_i y9)] [z_i (if (f_X9_isKey w8 12748404) = 0 then 0 else 1)] (sh, w8) Q by
    refine z_if_eq (tgt := 46) dX9_readGap_39 (by decide) (fun c11 => ?_) (fun c11 => ?_)
    · skip
      refine z_iconst dX9_readGap_46 (by decide) ?_
      refine z_sub (L' := [(0, z_r 161), (1, z_i y7), (2, z_i y9)]) [2, 1, 0] rfl ?_
      simp only [if_pos c11] at hJ10
      exact hJ10
    · skip
      refine z_iconst dX9_readGap_42 (by decide) ?_
      refine z_goto (tgt := 47) dX9_readGap_43 (by decide) ?_
      refine z_sub (L' := [(0, z_r 161), (1, z_i y7), (2, z_i y9)]) [2, 1, 0] rfl ?_
      simp only [if_neg c11] at hJ10
      exact hJ10
  refine z_nam (fun y14 hy14 => ?_)
  replace h := h y14 hy14
  refine z_istore_n (L' := [(3, z_i y14), (0, z_r 161), (1, z_i y7), (2, z_i y9)]) dX9_readGap_47 rfl (by decide) rfl ?_
  refine z_aload_n 1 dX9_readGap_48 rfl rfl ?_
  refine z_aload_n 1 dX9_readGap_49 rfl rfl ?_
  refine z_ldc (n := 441972) zkRX9_235 dX9_readGap_50 (by decide) (by decide) ?_
  refine z_callV (As := [z_i 441972]) (rest := [z_r 161]) zmX9_isKey znX9_isKey zsX9_isKey (show vwCl[9]? = some (RX9, TX9, 29) from rfl) zlRX9_232 ⟨Nat.le_of_ble_eq_true rfl, Nat.le_of_ble_eq_true rfl⟩ dX9_readGap_52 hh0.1 rfl rfl (z_ai z_a0) (Nat.le_of_ble_eq_true rfl) (Nat.le_of_ble_eq_true rfl) ⟨Nat.le_refl _, Nat.le_refl _⟩ ?_
  refine t_X9_isKey hh0 ?_
  show z_Sem mX9_readGap (sh.length, 0) 55 [(3, z_i y14), (0, z_r 161), (1, z_i y7), (2, z_i y9)] [z_i (f_X9_isKey w8 441972), z_r 161] (sh, w8) Q
  suffices hJ15 : z_Sem mX9_readGap (sh.length, 0) 72 [(0, z_r 161), (1, z_i y7), (2, z_i y9), (3, z_i y14)] [z_i (if (f_X9_isKey w8 441972) = 0 then (if (f_X9_isKey w8 12748404) = 0 then 0 else 1) else 1), z_r 161] (sh, w8) Q by
    refine z_if_ne (tgt := 67) dX9_readGap_55 (by decide) (fun c16 => ?_) (fun c16 => ?_)
    · skip
      refine z_iconst dX9_readGap_67 (by decide) ?_
      refine z_goto (tgt := 72) dX9_readGap_68 (by decide) ?_
      refine z_sub (L' := [(0, z_r 161), (1, z_i y7), (2, z_i y9), (3, z_i y14)]) [1, 2, 3, 0] rfl ?_
      simp only [if_neg c16] at hJ15
      exact hJ15
    · skip
      refine z_aload_n 1 dX9_readGap_58 rfl rfl ?_
      refine z_ldc (n := 12748404) zkRX9_231 dX9_readGap_59 (by decide) (by decide) ?_
      refine z_callV (As := [z_i 12748404]) (rest := [z_r 161]) zmX9_isKey znX9_isKey zsX9_isKey (show vwCl[9]? = some (RX9, TX9, 29) from rfl) zlRX9_232 ⟨Nat.le_of_ble_eq_true rfl, Nat.le_of_ble_eq_true rfl⟩ dX9_readGap_61 hh0.1 rfl rfl (z_ai z_a0) (Nat.le_of_ble_eq_true rfl) (Nat.le_of_ble_eq_true rfl) ⟨Nat.le_refl _, Nat.le_refl _⟩ ?_
      refine t_X9_isKey hh0 ?_
      show z_Sem mX9_readGap (sh.length, 0) 64 [(3, z_i y14), (0, z_r 161), (1, z_i y7), (2, z_i y9)] [z_i (f_X9_isKey w8 12748404), z_r 161] (sh, w8) Q
      suffices hJ19 : z_Sem mX9_readGap (sh.length, 0) 72 [(0, z_r 161), (1, z_i y7), (2, z_i y9), (3, z_i y14)] [z_i (if (f_X9_isKey w8 12748404) = 0 then 0 else 1), z_r 161] (sh, w8) Q by
        refine z_if_eq (tgt := 71) dX9_readGap_64 (by decide) (fun c20 => ?_) (fun c20 => ?_)
        · skip
          refine z_iconst dX9_readGap_71 (by decide) ?_
          refine z_sub (L' := [(0, z_r 161), (1, z_i y7), (2, z_i y9), (3, z_i y14)]) [1, 2, 3, 0] rfl ?_
          simp only [if_pos c20] at hJ19
          exact hJ19
        · skip
          refine z_iconst dX9_readGap_67 (by decide) ?_
          refine z_goto (tgt := 72) dX9_readGap_68 (by decide) ?_
          refine z_sub (L' := [(0, z_r 161), (1, z_i y7), (2, z_i y9), (3, z_i y14)]) [1, 2, 3, 0] rfl ?_
          simp only [if_neg c20] at hJ19
          exact hJ19
      simp only [if_pos c16] at hJ15
      exact hJ15
  refine z_callV (As := [z_i (if (f_X9_isKey w8 441972) = 0 then (if (f_X9_isKey w8 12748404) = 0 then 0 else 1) else 1)]) (rest := []) zmX9_takes znX9_takes zsX9_takes (show vwCl[9]? = some (RX9, TX9, 29) from rfl) zlRX9_215 ⟨Nat.le_of_ble_eq_true rfl, Nat.le_of_ble_eq_true rfl⟩ dX9_readGap_72 hh0.1 rfl rfl (z_ai z_a0) (Nat.le_of_ble_eq_true rfl) (Nat.le_of_ble_eq_true rfl) ⟨Nat.le_refl _, Nat.le_refl _⟩ (z_CVm h ?_)
  intro w23 h
  show z_Sem mX9_readGap (sh.length, 0) 75 [(0, z_r 161), (1, z_i y7), (2, z_i y9), (3, z_i y14)] [] (sh, w23) Q
  refine z_aload_n 0 dX9_readGap_75 rfl rfl ?_
  refine z_iconst dX9_readGap_76 (by decide) ?_
  refine z_sipush dX9_readGap_77 (by decide) (by decide) ?_
  refine z_callV (As := [z_i 0, z_i 999]) (rest := []) zmX9_numberIn znX9_numberIn zsX9_numberIn (show vwCl[9]? = some (RX9, TX9, 29) from rfl) zlRX9_236 ⟨Nat.le_of_ble_eq_true rfl, Nat.le_of_ble_eq_true rfl⟩ dX9_readGap_80 hh0.1 rfl rfl (z_ai (z_ai z_a0)) (Nat.le_of_ble_eq_true rfl) (Nat.le_of_ble_eq_true rfl) ⟨Nat.le_refl _, Nat.le_refl _⟩ (z_CIm h ?_)
  intro y25 w24 h
  show z_Sem mX9_readGap (sh.length, 0) 83 [(0, z_r 161), (1, z_i y7), (2, z_i y9), (3, z_i y14)] [z_i y25] (sh, w24) Q
  refine z_istore (L' := [(4, z_i y25), (0, z_r 161), (1, z_i y7), (2, z_i y9), (3, z_i y14)]) dX9_readGap_83 (by decide) rfl ?_
  refine z_aload_n 1 dX9_readGap_85 rfl rfl ?_
  refine z_sipush dX9_readGap_86 (by decide) (by decide) ?_
  refine z_callV (As := [z_i 15558]) (rest := []) zmX9_isKey znX9_isKey zsX9_isKey (show vwCl[9]? = some (RX9, TX9, 29) from rfl) zlRX9_232 ⟨Nat.le_of_ble_eq_true rfl, Nat.le_of_ble_eq_true rfl⟩ dX9_readGap_89 hh0.1 rfl rfl (z_ai z_a0) (Nat.le_of_ble_eq_true rfl) (Nat.le_of_ble_eq_true rfl) ⟨Nat.le_refl _, Nat.le_refl _⟩ ?_
  refine t_X9_isKey hh0 ?_
  show z_Sem mX9_readGap (sh.length, 0) 92 [(4, z_i y25), (0, z_r 161), (1, z_i y7), (2, z_i y9), (3, z_i y14)] [z_i (f_X9_isKey w24 15558)] (sh, w24) Q
  refine z_nam (fun y26 hy26 => ?_)
  replace h := h y26 hy26
  refine z_istore (L' := [(5, z_i y26), (4, z_i y25), (0, z_r 161), (1, z_i y7), (2, z_i y9), (3, z_i y14)]) dX9_readGap_92 (by decide) rfl ?_
  refine z_iload 0 dX9_readGap_94 rfl ?_
  refine z_if_eq (tgt := 104) dX9_readGap_96 (by decide) (fun c27 => ?_) (fun c27 => ?_)
  · replace h := h.1 c27
    refine z_aload_n 2 dX9_readGap_104 rfl rfl ?_
    refine z_getI (ki := 20) zfRX9_205 dX9_readGap_105 hh0.1 rfl rfl ?_
    refine z_if_eq (tgt := 132) dX9_readGap_108 (by decide) (fun c28 => ?_) (fun c28 => ?_)
    · replace h := h.1 c28
      refine z_aload_n 2 dX9_readGap_132 rfl rfl ?_
      refine z_aload_n 2 dX9_readGap_133 rfl rfl ?_
      refine z_getI (ki := 20) zfRX9_205 dX9_readGap_134 hh0.1 rfl rfl ?_
      refine z_if_eq (tgt := 159) dX9_readGap_137 (by decide) (fun c29 => ?_) (fun c29 => ?_)
      · replace h := h.1 c29
        refine z_iconst dX9_readGap_159 (by decide) ?_
        refine z_callV (As := [z_i 0]) (rest := []) zmX9_takes znX9_takes zsX9_takes (show vwCl[9]? = some (RX9, TX9, 29) from rfl) zlRX9_215 ⟨Nat.le_of_ble_eq_true rfl, Nat.le_of_ble_eq_true rfl⟩ dX9_readGap_160 hh0.1 rfl rfl (z_ai z_a0) (Nat.le_of_ble_eq_true rfl) (Nat.le_of_ble_eq_true rfl) ⟨Nat.le_refl _, Nat.le_refl _⟩ (z_CVm h ?_)
        intro w30 h
        show z_Sem mX9_readGap (sh.length, 0) 163 [(5, z_i y26), (4, z_i y25), (0, z_r 161), (1, z_i y7), (2, z_i y9), (3, z_i y14)] [] (sh, w30) Q
        exact z_ret (v := none) dX9_readGap_163 ⟨rfl, rfl⟩ rfl rfl h
      · replace h := h.2 c29
        refine z_aload_n 2 dX9_readGap_140 rfl rfl ?_
        refine z_getI (ki := 17) zfRX9_193 dX9_readGap_141 hh0.1 rfl rfl ?_
        refine z_iconst dX9_readGap_144 (by decide) ?_
        refine z_icmp_ne (tgt := 159) dX9_readGap_145 (by decide) (fun c31 => ?_) (fun c31 => ?_)
        · replace h := h.2 c31
          refine z_iconst dX9_readGap_159 (by decide) ?_
          refine z_callV (As := [z_i 0]) (rest := []) zmX9_takes znX9_takes zsX9_takes (show vwCl[9]? = some (RX9, TX9, 29) from rfl) zlRX9_215 ⟨Nat.le_of_ble_eq_true rfl, Nat.le_of_ble_eq_true rfl⟩ dX9_readGap_160 hh0.1 rfl rfl (z_ai z_a0) (Nat.le_of_ble_eq_true rfl) (Nat.le_of_ble_eq_true rfl) ⟨Nat.le_refl _, Nat.le_refl _⟩ (z_CVm h ?_)
          intro w32 h
          show z_Sem mX9_readGap (sh.length, 0) 163 [(5, z_i y26), (4, z_i y25), (0, z_r 161), (1, z_i y7), (2, z_i y9), (3, z_i y14)] [] (sh, w32) Q
          exact z_ret (v := none) dX9_readGap_163 ⟨rfl, rfl⟩ rfl rfl h
        · replace h := h.1 c31
          refine z_aload_n 2 dX9_readGap_148 rfl rfl ?_
          refine z_callV (As := []) (rest := [z_r 161]) zmX9_lays znX9_lays zsX9_lays (show vwCl[9]? = some (RX9, TX9, 29) from rfl) zlRX9_126 ⟨Nat.le_of_ble_eq_true rfl, Nat.le_of_ble_eq_true rfl⟩ dX9_readGap_149 hh0.1 rfl rfl z_a0 (Nat.le_of_ble_eq_true rfl) (Nat.le_of_ble_eq_true rfl) ⟨Nat.le_refl _, Nat.le_refl _⟩ (z_CIm h ?_)
          intro y34 w33 h
          show z_Sem mX9_readGap (sh.length, 0) 152 [(5, z_i y26), (4, z_i y25), (0, z_r 161), (1, z_i y7), (2, z_i y9), (3, z_i y14)] [z_i y34, z_r 161] (sh, w33) Q
          suffices hJ35 : z_Sem mX9_readGap (sh.length, 0) 160 [] [z_i (if y34 = 0 then 0 else 1), z_r 161] (sh, w33) Q by
            refine z_if_eq (tgt := 159) dX9_readGap_152 (by decide) (fun c36 => ?_) (fun c36 => ?_)
            · skip
              refine z_iconst dX9_readGap_159 (by decide) ?_
              refine z_sub (L' := []) [] rfl ?_
              simp only [if_pos c36] at hJ35
              exact hJ35
            · skip
              refine z_iconst dX9_readGap_155 (by decide) ?_
              refine z_goto (tgt := 160) dX9_readGap_156 (by decide) ?_
              refine z_sub (L' := []) [] rfl ?_
              simp only [if_neg c36] at hJ35
              exact hJ35
          refine z_callV (As := [z_i (if y34 = 0 then 0 else 1)]) (rest := []) zmX9_takes znX9_takes zsX9_takes (show vwCl[9]? = some (RX9, TX9, 29) from rfl) zlRX9_215 ⟨Nat.le_of_ble_eq_true rfl, Nat.le_of_ble_eq_true rfl⟩ dX9_readGap_160 hh0.1 rfl rfl (z_ai z_a0) (Nat.le_of_ble_eq_true rfl) (Nat.le_of_ble_eq_true rfl) ⟨Nat.le_refl _, Nat.le_refl _⟩ (z_CVm h ?_)
          intro w39 h
          show z_Sem mX9_readGap (sh.length, 0) 163 [] [] (sh, w39) Q
          exact z_ret (v := none) dX9_readGap_163 ⟨rfl, rfl⟩ rfl rfl h
    · replace h := h.2 c28
      refine z_aload_n 2 dX9_readGap_111 rfl rfl ?_
      refine z_iload_n 3 dX9_readGap_112 rfl rfl ?_
      refine z_iload_n 4 dX9_readGap_113 rfl rfl ?_
      refine z_iload_n 5 dX9_readGap_114 rfl rfl ?_
      refine z_iload 1 dX9_readGap_115 rfl ?_
      refine z_iload 0 dX9_readGap_117 rfl ?_
      suffices hJ40 : z_Sem mX9_readGap (sh.length, 0) 127 [(0, z_r 161)] [z_i (if y26 = 0 then 1 else 0), z_i y25, z_i y14, z_i y9, z_i y7, z_r 161] (sh, w24) Q by
        refine z_if_eq (tgt := 126) dX9_readGap_119 (by decide) (fun c41 => ?_) (fun c41 => ?_)
        · skip
          refine z_iconst dX9_readGap_126 (by decide) ?_
          refine z_sub (L' := [(0, z_r 161)]) [2] rfl ?_
          simp only [if_pos c41] at hJ40
          exact hJ40
        · skip
          refine z_iconst dX9_readGap_122 (by decide) ?_
          refine z_goto (tgt := 127) dX9_readGap_123 (by decide) ?_
          refine z_sub (L' := [(0, z_r 161)]) [2] rfl ?_
          simp only [if_neg c41] at hJ40
          exact hJ40
      refine z_callV (As := [z_i y7, z_i y9, z_i y14, z_i y25, z_i (if y26 = 0 then 1 else 0)]) (rest := []) zmX9_comes znX9_comes zsX9_comes (show vwCl[9]? = some (RX9, TX9, 29) from rfl) zlRX9_150 ⟨Nat.le_of_ble_eq_true rfl, Nat.le_of_ble_eq_true rfl⟩ dX9_readGap_127 hh0.1 rfl rfl (z_ai (z_ai (z_ai (z_ai (z_ai z_a0))))) (Nat.le_of_ble_eq_true rfl) (Nat.le_of_ble_eq_true rfl) ⟨Nat.le_refl _, Nat.le_refl _⟩ (z_CIm h ?_)
      intro y45 w44 h
      show z_Sem mX9_readGap (sh.length, 0) 130 [(0, z_r 161)] [z_i y45] (sh, w44) Q
      refine z_istore (L' := [(6, z_i y45), (0, z_r 161)]) dX9_readGap_130 (by decide) rfl ?_
      refine z_aload_n 1 dX9_readGap_132 rfl rfl ?_
      refine z_aload_n 1 dX9_readGap_133 rfl rfl ?_
      refine z_getI (ki := 20) zfRX9_205 dX9_readGap_134 hh0.1 rfl rfl ?_
      refine z_if_eq (tgt := 159) dX9_readGap_137 (by decide) (fun c46 => ?_) (fun c46 => ?_)
      · replace h := h.1 c46
        refine z_iconst dX9_readGap_159 (by decide) ?_
        refine z_callV (As := [z_i 0]) (rest := []) zmX9_takes znX9_takes zsX9_takes (show vwCl[9]? = some (RX9, TX9, 29) from rfl) zlRX9_215 ⟨Nat.le_of_ble_eq_true rfl, Nat.le_of_ble_eq_true rfl⟩ dX9_readGap_160 hh0.1 rfl rfl (z_ai z_a0) (Nat.le_of_ble_eq_true rfl) (Nat.le_of_ble_eq_true rfl) ⟨Nat.le_refl _, Nat.le_refl _⟩ (z_CVm h ?_)
        intro w47 h
        show z_Sem mX9_readGap (sh.length, 0) 163 [(6, z_i y45), (0, z_r 161)] [] (sh, w47) Q
        exact z_ret (v := none) dX9_readGap_163 ⟨rfl, rfl⟩ rfl rfl h
      · replace h := h.2 c46
        refine z_aload_n 1 dX9_readGap_140 rfl rfl ?_
        refine z_getI (ki := 17) zfRX9_193 dX9_readGap_141 hh0.1 rfl rfl ?_
        refine z_iconst dX9_readGap_144 (by decide) ?_
        refine z_icmp_ne (tgt := 159) dX9_readGap_145 (by decide) (fun c48 => ?_) (fun c48 => ?_)
        · replace h := h.2 c48
          refine z_iconst dX9_readGap_159 (by decide) ?_
          refine z_callV (As := [z_i 0]) (rest := []) zmX9_takes znX9_takes zsX9_takes (show vwCl[9]? = some (RX9, TX9, 29) from rfl) zlRX9_215 ⟨Nat.le_of_ble_eq_true rfl, Nat.le_of_ble_eq_true rfl⟩ dX9_readGap_160 hh0.1 rfl rfl (z_ai z_a0) (Nat.le_of_ble_eq_true rfl) (Nat.le_of_ble_eq_true rfl) ⟨Nat.le_refl _, Nat.le_refl _⟩ (z_CVm h ?_)
          intro w49 h
          show z_Sem mX9_readGap (sh.length, 0) 163 [(6, z_i y45), (0, z_r 161)] [] (sh, w49) Q
          exact z_ret (v := none) dX9_readGap_163 ⟨rfl, rfl⟩ rfl rfl h
        · replace h := h.1 c48
          refine z_aload_n 1 dX9_readGap_148 rfl rfl ?_
          refine z_callV (As := []) (rest := [z_r 161]) zmX9_lays znX9_lays zsX9_lays (show vwCl[9]? = some (RX9, TX9, 29) from rfl) zlRX9_126 ⟨Nat.le_of_ble_eq_true rfl, Nat.le_of_ble_eq_true rfl⟩ dX9_readGap_149 hh0.1 rfl rfl z_a0 (Nat.le_of_ble_eq_true rfl) (Nat.le_of_ble_eq_true rfl) ⟨Nat.le_refl _, Nat.le_refl _⟩ (z_CIm h ?_)
          intro y51 w50 h
          show z_Sem mX9_readGap (sh.length, 0) 152 [(6, z_i y45), (0, z_r 161)] [z_i y51, z_r 161] (sh, w50) Q
          suffices hJ52 : z_Sem mX9_readGap (sh.length, 0) 160 [] [z_i (if y51 = 0 then 0 else 1), z_r 161] (sh, w50) Q by
            refine z_if_eq (tgt := 159) dX9_readGap_152 (by decide) (fun c53 => ?_) (fun c53 => ?_)
            · skip
              refine z_iconst dX9_readGap_159 (by decide) ?_
              refine z_sub (L' := []) [] rfl ?_
              simp only [if_pos c53] at hJ52
              exact hJ52
            · skip
              refine z_iconst dX9_readGap_155 (by decide) ?_
              refine z_goto (tgt := 160) dX9_readGap_156 (by decide) ?_
              refine z_sub (L' := []) [] rfl ?_
              simp only [if_neg c53] at hJ52
              exact hJ52
          refine z_callV (As := [z_i (if y51 = 0 then 0 else 1)]) (rest := []) zmX9_takes znX9_takes zsX9_takes (show vwCl[9]? = some (RX9, TX9, 29) from rfl) zlRX9_215 ⟨Nat.le_of_ble_eq_true rfl, Nat.le_of_ble_eq_true rfl⟩ dX9_readGap_160 hh0.1 rfl rfl (z_ai z_a0) (Nat.le_of_ble_eq_true rfl) (Nat.le_of_ble_eq_true rfl) ⟨Nat.le_refl _, Nat.le_refl _⟩ (z_CVm h ?_)
          intro w56 h
          show z_Sem mX9_readGap (sh.length, 0) 163 [] [] (sh, w56) Q
          exact z_ret (v := none) dX9_readGap_163 ⟨rfl, rfl⟩ rfl rfl h
  · replace h := h.2 c27
    refine z_aload_n 2 dX9_readGap_99 rfl rfl ?_
    refine z_iconst dX9_readGap_100 (by decide) ?_
    refine z_callV (As := [z_i 1]) (rest := []) zmX9_takes znX9_takes zsX9_takes (show vwCl[9]? = some (RX9, TX9, 29) from rfl) zlRX9_215 ⟨Nat.le_of_ble_eq_true rfl, Nat.le_of_ble_eq_true rfl⟩ dX9_readGap_101 hh0.1 rfl rfl (z_ai z_a0) (Nat.le_of_ble_eq_true rfl) (Nat.le_of_ble_eq_true rfl) ⟨Nat.le_refl _, Nat.le_refl _⟩ (z_CVm h ?_)
    intro w57 h
    show z_Sem mX9_readGap (sh.length, 0) 104 [(5, z_i y26), (4, z_i y25), (0, z_r 161), (1, z_i y7), (2, z_i y9), (3, z_i y14)] [] (sh, w57) Q
    refine z_aload_n 2 dX9_readGap_104 rfl rfl ?_
    refine z_getI (ki := 20) zfRX9_205 dX9_readGap_105 hh0.1 rfl rfl ?_
    refine z_if_eq (tgt := 132) dX9_readGap_108 (by decide) (fun c58 => ?_) (fun c58 => ?_)
    · replace h := h.1 c58
      refine z_aload_n 2 dX9_readGap_132 rfl rfl ?_
      refine z_aload_n 2 dX9_readGap_133 rfl rfl ?_
      refine z_getI (ki := 20) zfRX9_205 dX9_readGap_134 hh0.1 rfl rfl ?_
      refine z_if_eq (tgt := 159) dX9_readGap_137 (by decide) (fun c59 => ?_) (fun c59 => ?_)
      · replace h := h.1 c59
        refine z_iconst dX9_readGap_159 (by decide) ?_
        refine z_callV (As := [z_i 0]) (rest := []) zmX9_takes znX9_takes zsX9_takes (show vwCl[9]? = some (RX9, TX9, 29) from rfl) zlRX9_215 ⟨Nat.le_of_ble_eq_true rfl, Nat.le_of_ble_eq_true rfl⟩ dX9_readGap_160 hh0.1 rfl rfl (z_ai z_a0) (Nat.le_of_ble_eq_true rfl) (Nat.le_of_ble_eq_true rfl) ⟨Nat.le_refl _, Nat.le_refl _⟩ (z_CVm h ?_)
        intro w60 h
        show z_Sem mX9_readGap (sh.length, 0) 163 [(5, z_i y26), (4, z_i y25), (0, z_r 161), (1, z_i y7), (2, z_i y9), (3, z_i y14)] [] (sh, w60) Q
        exact z_ret (v := none) dX9_readGap_163 ⟨rfl, rfl⟩ rfl rfl h
      · replace h := h.2 c59
        refine z_aload_n 2 dX9_readGap_140 rfl rfl ?_
        refine z_getI (ki := 17) zfRX9_193 dX9_readGap_141 hh0.1 rfl rfl ?_
        refine z_iconst dX9_readGap_144 (by decide) ?_
        refine z_icmp_ne (tgt := 159) dX9_readGap_145 (by decide) (fun c61 => ?_) (fun c61 => ?_)
        · replace h := h.2 c61
          refine z_iconst dX9_readGap_159 (by decide) ?_
          refine z_callV (As := [z_i 0]) (rest := []) zmX9_takes znX9_takes zsX9_takes (show vwCl[9]? = some (RX9, TX9, 29) from rfl) zlRX9_215 ⟨Nat.le_of_ble_eq_true rfl, Nat.le_of_ble_eq_true rfl⟩ dX9_readGap_160 hh0.1 rfl rfl (z_ai z_a0) (Nat.le_of_ble_eq_true rfl) (Nat.le_of_ble_eq_true rfl) ⟨Nat.le_refl _, Nat.le_refl _⟩ (z_CVm h ?_)
          intro w62 h
          show z_Sem mX9_readGap (sh.length, 0) 163 [(5, z_i y26), (4, z_i y25), (0, z_r 161), (1, z_i y7), (2, z_i y9), (3, z_i y14)] [] (sh, w62) Q
          exact z_ret (v := none) dX9_readGap_163 ⟨rfl, rfl⟩ rfl rfl h
        · replace h := h.1 c61
          refine z_aload_n 2 dX9_readGap_148 rfl rfl ?_
          refine z_callV (As := []) (rest := [z_r 161]) zmX9_lays znX9_lays zsX9_lays (show vwCl[9]? = some (RX9, TX9, 29) from rfl) zlRX9_126 ⟨Nat.le_of_ble_eq_true rfl, Nat.le_of_ble_eq_true rfl⟩ dX9_readGap_149 hh0.1 rfl rfl z_a0 (Nat.le_of_ble_eq_true rfl) (Nat.le_of_ble_eq_true rfl) ⟨Nat.le_refl _, Nat.le_refl _⟩ (z_CIm h ?_)
          intro y64 w63 h
          show z_Sem mX9_readGap (sh.length, 0) 152 [(5, z_i y26), (4, z_i y25), (0, z_r 161), (1, z_i y7), (2, z_i y9), (3, z_i y14)] [z_i y64, z_r 161] (sh, w63) Q
          suffices hJ65 : z_Sem mX9_readGap (sh.length, 0) 160 [] [z_i (if y64 = 0 then 0 else 1), z_r 161] (sh, w63) Q by
            refine z_if_eq (tgt := 159) dX9_readGap_152 (by decide) (fun c66 => ?_) (fun c66 => ?_)
            · skip
              refine z_iconst dX9_readGap_159 (by decide) ?_
              refine z_sub (L' := []) [] rfl ?_
              simp only [if_pos c66] at hJ65
              exact hJ65
            · skip
              refine z_iconst dX9_readGap_155 (by decide) ?_
              refine z_goto (tgt := 160) dX9_readGap_156 (by decide) ?_
              refine z_sub (L' := []) [] rfl ?_
              simp only [if_neg c66] at hJ65
              exact hJ65
          refine z_callV (As := [z_i (if y64 = 0 then 0 else 1)]) (rest := []) zmX9_takes znX9_takes zsX9_takes (show vwCl[9]? = some (RX9, TX9, 29) from rfl) zlRX9_215 ⟨Nat.le_of_ble_eq_true rfl, Nat.le_of_ble_eq_true rfl⟩ dX9_readGap_160 hh0.1 rfl rfl (z_ai z_a0) (Nat.le_of_ble_eq_true rfl) (Nat.le_of_ble_eq_true rfl) ⟨Nat.le_refl _, Nat.le_refl _⟩ (z_CVm h ?_)
          intro w69 h
          show z_Sem mX9_readGap (sh.length, 0) 163 [] [] (sh, w69) Q
          exact z_ret (v := none) dX9_readGap_163 ⟨rfl, rfl⟩ rfl rfl h
    · replace h := h.2 c58
      refine z_aload_n 2 dX9_readGap_111 rfl rfl ?_
      refine z_iload_n 3 dX9_readGap_112 rfl rfl ?_
      refine z_iload_n 4 dX9_readGap_113 rfl rfl ?_
      refine z_iload_n 5 dX9_readGap_114 rfl rfl ?_
      refine z_iload 1 dX9_readGap_115 rfl ?_
      refine z_iload 0 dX9_readGap_117 rfl ?_
      suffices hJ70 : z_Sem mX9_readGap (sh.length, 0) 127 [(0, z_r 161)] [z_i (if y26 = 0 then 1 else 0), z_i y25, z_i y14, z_i y9, z_i y7, z_r 161] (sh, w57) Q by
        refine z_if_eq (tgt := 126) dX9_readGap_119 (by decide) (fun c71 => ?_) (fun c71 => ?_)
        · skip
          refine z_iconst dX9_readGap_126 (by decide) ?_
          refine z_sub (L' := [(0, z_r 161)]) [2] rfl ?_
          simp only [if_pos c71] at hJ70
          exact hJ70
        · skip
          refine z_iconst dX9_readGap_122 (by decide) ?_
          refine z_goto (tgt := 127) dX9_readGap_123 (by decide) ?_
          refine z_sub (L' := [(0, z_r 161)]) [2] rfl ?_
          simp only [if_neg c71] at hJ70
          exact hJ70
      refine z_callV (As := [z_i y7, z_i y9, z_i y14, z_i y25, z_i (if y26 = 0 then 1 else 0)]) (rest := []) zmX9_comes znX9_comes zsX9_comes (show vwCl[9]? = some (RX9, TX9, 29) from rfl) zlRX9_150 ⟨Nat.le_of_ble_eq_true rfl, Nat.le_of_ble_eq_true rfl⟩ dX9_readGap_127 hh0.1 rfl rfl (z_ai (z_ai (z_ai (z_ai (z_ai z_a0))))) (Nat.le_of_ble_eq_true rfl) (Nat.le_of_ble_eq_true rfl) ⟨Nat.le_refl _, Nat.le_refl _⟩ (z_CIm h ?_)
      intro y75 w74 h
      show z_Sem mX9_readGap (sh.length, 0) 130 [(0, z_r 161)] [z_i y75] (sh, w74) Q
      refine z_istore (L' := [(6, z_i y75), (0, z_r 161)]) dX9_readGap_130 (by decide) rfl ?_
      refine z_aload_n 1 dX9_readGap_132 rfl rfl ?_
      refine z_aload_n 1 dX9_readGap_133 rfl rfl ?_
      refine z_getI (ki := 20) zfRX9_205 dX9_readGap_134 hh0.1 rfl rfl ?_
      refine z_if_eq (tgt := 159) dX9_readGap_137 (by decide) (fun c76 => ?_) (fun c76 => ?_)
      · replace h := h.1 c76
        refine z_iconst dX9_readGap_159 (by decide) ?_
        refine z_callV (As := [z_i 0]) (rest := []) zmX9_takes znX9_takes zsX9_takes (show vwCl[9]? = some (RX9, TX9, 29) from rfl) zlRX9_215 ⟨Nat.le_of_ble_eq_true rfl, Nat.le_of_ble_eq_true rfl⟩ dX9_readGap_160 hh0.1 rfl rfl (z_ai z_a0) (Nat.le_of_ble_eq_true rfl) (Nat.le_of_ble_eq_true rfl) ⟨Nat.le_refl _, Nat.le_refl _⟩ (z_CVm h ?_)
        intro w77 h
        show z_Sem mX9_readGap (sh.length, 0) 163 [(6, z_i y75), (0, z_r 161)] [] (sh, w77) Q
        exact z_ret (v := none) dX9_readGap_163 ⟨rfl, rfl⟩ rfl rfl h
      · replace h := h.2 c76
        refine z_aload_n 1 dX9_readGap_140 rfl rfl ?_
        refine z_getI (ki := 17) zfRX9_193 dX9_readGap_141 hh0.1 rfl rfl ?_
        refine z_iconst dX9_readGap_144 (by decide) ?_
        refine z_icmp_ne (tgt := 159) dX9_readGap_145 (by decide) (fun c78 => ?_) (fun c78 => ?_)
        · replace h := h.2 c78
          refine z_iconst dX9_readGap_159 (by decide) ?_
          refine z_callV (As := [z_i 0]) (rest := []) zmX9_takes znX9_takes zsX9_takes (show vwCl[9]? = some (RX9, TX9, 29) from rfl) zlRX9_215 ⟨Nat.le_of_ble_eq_true rfl, Nat.le_of_ble_eq_true rfl⟩ dX9_readGap_160 hh0.1 rfl rfl (z_ai z_a0) (Nat.le_of_ble_eq_true rfl) (Nat.le_of_ble_eq_true rfl) ⟨Nat.le_refl _, Nat.le_refl _⟩ (z_CVm h ?_)
          intro w79 h
          show z_Sem mX9_readGap (sh.length, 0) 163 [(6, z_i y75), (0, z_r 161)] [] (sh, w79) Q
          exact z_ret (v := none) dX9_readGap_163 ⟨rfl, rfl⟩ rfl rfl h
        · replace h := h.1 c78
          refine z_aload_n 1 dX9_readGap_148 rfl rfl ?_
          refine z_callV (As := []) (rest := [z_r 161]) zmX9_lays znX9_lays zsX9_lays (show vwCl[9]? = some (RX9, TX9, 29) from rfl) zlRX9_126 ⟨Nat.le_of_ble_eq_true rfl, Nat.le_of_ble_eq_true rfl⟩ dX9_readGap_149 hh0.1 rfl rfl z_a0 (Nat.le_of_ble_eq_true rfl) (Nat.le_of_ble_eq_true rfl) ⟨Nat.le_refl _, Nat.le_refl _⟩ (z_CIm h ?_)
          intro y81 w80 h
          show z_Sem mX9_readGap (sh.length, 0) 152 [(6, z_i y75), (0, z_r 161)] [z_i y81, z_r 161] (sh, w80) Q
          suffices hJ82 : z_Sem mX9_readGap (sh.length, 0) 160 [] [z_i (if y81 = 0 then 0 else 1), z_r 161] (sh, w80) Q by
            refine z_if_eq (tgt := 159) dX9_readGap_152 (by decide) (fun c83 => ?_) (fun c83 => ?_)
            · skip
              refine z_iconst dX9_readGap_159 (by decide) ?_
              refine z_sub (L' := []) [] rfl ?_
              simp only [if_pos c83] at hJ82
              exact hJ82
            · skip
              refine z_iconst dX9_readGap_155 (by decide) ?_
              refine z_goto (tgt := 160) dX9_readGap_156 (by decide) ?_
              refine z_sub (L' := []) [] rfl ?_
              simp only [if_neg c83] at hJ82
              exact hJ82
          refine z_callV (As := [z_i (if y81 = 0 then 0 else 1)]) (rest := []) zmX9_takes znX9_takes zsX9_takes (show vwCl[9]? = some (RX9, TX9, 29) from rfl) zlRX9_215 ⟨Nat.le_of_ble_eq_true rfl, Nat.le_of_ble_eq_true rfl⟩ dX9_readGap_160 hh0.1 rfl rfl (z_ai z_a0) (Nat.le_of_ble_eq_true rfl) (Nat.le_of_ble_eq_true rfl) ⟨Nat.le_refl _, Nat.le_refl _⟩ (z_CVm h ?_)
          intro w86 h
          show z_Sem mX9_readGap (sh.length, 0) 163 [] [] (sh, w86) Q
          exact z_ret (v := none) dX9_readGap_163 ⟨rfl, rfl⟩ rfl rfl h
set_option maxRecDepth 100000 in
theorem t_X9_readPin {sh : List z_C} {w : Nat → Int → Int} {Q : Option z_V → z_S → Prop}  (hh0 : z_isMod sh 161) (h : z_CV mX9_takes [z_r 161, z_i (f_X9_isKey w 16686)] sh w (fun w1 => (((w1 161 20) = 0 → (¬ (-2) ≤ 0 → (s_X9_isPinned w1 (-2)) ∧ True) ∧ z_CV mX9_takes [z_r 161, z_i (if (-2) ≤ 0 then 0 else if (f_X9_isPinned w1 (-2)) = 0 then 1 else 0)] sh w1 (fun w13 => z_CI mX9_numberIn [z_r 161, z_i 0, z_i (w13 163 0)] sh w13 (fun y15 w14 => (((w14 161 20) = 0 → (((w14 161 20) = 0 → z_CV mX9_takes [z_r 161, z_i 0] sh w14 (fun w18 => Q none (sh, w18))) ∧ (¬ (w14 161 20) = 0 → (((w14 161 17) = 3 → z_CI mX9_lays [z_r 161] sh w14 (fun y22 w21 => z_CV mX9_takes [z_r 161, z_i (if y22 = 0 then 0 else 1)] sh w21 (fun w27 => Q none (sh, w27)))) ∧ (¬ (w14 161 17) = 3 → z_CV mX9_takes [z_r 161, z_i 0] sh w14 (fun w20 => Q none (sh, w20))))))) ∧ (¬ (w14 161 20) = 0 → (z_R (y15 + 1)) ∧ ∀ w29 : Nat → Int → Int, w29 = z_W w14 163 (133 + (-2)) (y15 + 1) → (((w29 161 20) = 0 → z_CV mX9_takes [z_r 161, z_i 0] sh w29 (fun w31 => Q none (sh, w31))) ∧ (¬ (w29 161 20) = 0 → (((w29 161 17) = 3 → z_CI mX9_lays [z_r 161] sh w29 (fun y35 w34 => z_CV mX9_takes [z_r 161, z_i (if y35 = 0 then 0 else 1)] sh w34 (fun w40 => Q none (sh, w40)))) ∧ (¬ (w29 161 17) = 3 → z_CV mX9_takes [z_r 161, z_i 0] sh w29 (fun w33 => Q none (sh, w33))))))))))) ∧ (¬ (w1 161 20) = 0 → (((w1 161 17) = 1 → z_CI mX9_named [z_r 161, z_i (w1 161 18)] sh w1 (fun y81 w80 => (¬ y81 ≤ 0 → (s_X9_isPinned w80 y81) ∧ True) ∧ z_CV mX9_takes [z_r 161, z_i (if y81 ≤ 0 then 0 else if (f_X9_isPinned w80 y81) = 0 then 1 else 0)] sh w80 (fun w92 => z_CI mX9_numberIn [z_r 161, z_i 0, z_i (w92 163 0)] sh w92 (fun y94 w93 => (((w93 161 20) = 0 → (((w93 161 20) = 0 → z_CV mX9_takes [z_r 161, z_i 0] sh w93 (fun w97 => Q none (sh, w97))) ∧ (¬ (w93 161 20) = 0 → (((w93 161 17) = 3 → z_CI mX9_lays [z_r 161] sh w93 (fun y101 w100 => z_CV mX9_takes [z_r 161, z_i (if y101 = 0 then 0 else 1)] sh w100 (fun w106 => Q none (sh, w106)))) ∧ (¬ (w93 161 17) = 3 → z_CV mX9_takes [z_r 161, z_i 0] sh w93 (fun w99 => Q none (sh, w99))))))) ∧ (¬ (w93 161 20) = 0 → (z_R (133 + y81)) ∧ (z_R (y94 + 1)) ∧ ((0 : Int) ≤ (133 + y81) ∧ (133 + y81) < 264) ∧ ∀ w109 : Nat → Int → Int, w109 = z_W w93 163 (133 + y81) (y94 + 1) → (((w109 161 20) = 0 → z_CV mX9_takes [z_r 161, z_i 0] sh w109 (fun w112 => Q none (sh, w112))) ∧ (¬ (w109 161 20) = 0 → (((w109 161 17) = 3 → z_CI mX9_lays [z_r 161] sh w109 (fun y116 w115 => z_CV mX9_takes [z_r 161, z_i (if y116 = 0 then 0 else 1)] sh w115 (fun w121 => Q none (sh, w121)))) ∧ (¬ (w109 161 17) = 3 → z_CV mX9_takes [z_r 161, z_i 0] sh w109 (fun w114 => Q none (sh, w114)))))))))))) ∧ (¬ (w1 161 17) = 1 → (¬ (-2) ≤ 0 → (s_X9_isPinned w1 (-2)) ∧ True) ∧ z_CV mX9_takes [z_r 161, z_i (if (-2) ≤ 0 then 0 else if (f_X9_isPinned w1 (-2)) = 0 then 1 else 0)] sh w1 (fun w52 => z_CI mX9_numberIn [z_r 161, z_i 0, z_i (w52 163 0)] sh w52 (fun y54 w53 => (((w53 161 20) = 0 → (((w53 161 20) = 0 → z_CV mX9_takes [z_r 161, z_i 0] sh w53 (fun w57 => Q none (sh, w57))) ∧ (¬ (w53 161 20) = 0 → (((w53 161 17) = 3 → z_CI mX9_lays [z_r 161] sh w53 (fun y61 w60 => z_CV mX9_takes [z_r 161, z_i (if y61 = 0 then 0 else 1)] sh w60 (fun w66 => Q none (sh, w66)))) ∧ (¬ (w53 161 17) = 3 → z_CV mX9_takes [z_r 161, z_i 0] sh w53 (fun w59 => Q none (sh, w59))))))) ∧ (¬ (w53 161 20) = 0 → (z_R (y54 + 1)) ∧ ∀ w68 : Nat → Int → Int, w68 = z_W w53 163 (133 + (-2)) (y54 + 1) → (((w68 161 20) = 0 → z_CV mX9_takes [z_r 161, z_i 0] sh w68 (fun w70 => Q none (sh, w70))) ∧ (¬ (w68 161 20) = 0 → (((w68 161 17) = 3 → z_CI mX9_lays [z_r 161] sh w68 (fun y74 w73 => z_CV mX9_takes [z_r 161, z_i (if y74 = 0 then 0 else 1)] sh w73 (fun w79 => Q none (sh, w79)))) ∧ (¬ (w68 161 17) = 3 → z_CV mX9_takes [z_r 161, z_i 0] sh w68 (fun w72 => Q none (sh, w72)))))))))))))))) : z_Sem mX9_readPin (sh.length, 0) 0 [(0, z_r 161)] [] (sh, w) Q := by
  refine z_aload_n 0 dX9_readPin_0 rfl rfl ?_
  refine z_aload_n 0 dX9_readPin_1 rfl rfl ?_
  refine z_sipush dX9_readPin_2 (by decide) (by decide) ?_
  refine z_callV (As := [z_i 16686]) (rest := [z_r 161]) zmX9_isKey znX9_isKey zsX9_isKey (show vwCl[9]? = some (RX9, TX9, 29) from rfl) zlRX9_232 ⟨Nat.le_of_ble_eq_true rfl, Nat.le_of_ble_eq_true rfl⟩ dX9_readPin_5 hh0.1 rfl rfl (z_ai z_a0) (Nat.le_of_ble_eq_true rfl) (Nat.le_of_ble_eq_true rfl) ⟨Nat.le_refl _, Nat.le_refl _⟩ ?_
  refine t_X9_isKey hh0 ?_
  show z_Sem mX9_readPin (sh.length, 0) 8 [(0, z_r 161)] [z_i (f_X9_isKey w 16686), z_r 161] (sh, w) Q
  refine z_callV (As := [z_i (f_X9_isKey w 16686)]) (rest := []) zmX9_takes znX9_takes zsX9_takes (show vwCl[9]? = some (RX9, TX9, 29) from rfl) zlRX9_215 ⟨Nat.le_of_ble_eq_true rfl, Nat.le_of_ble_eq_true rfl⟩ dX9_readPin_8 hh0.1 rfl rfl (z_ai z_a0) (Nat.le_of_ble_eq_true rfl) (Nat.le_of_ble_eq_true rfl) ⟨Nat.le_refl _, Nat.le_refl _⟩ (z_CVm h ?_)
  intro w1 h
  show z_Sem mX9_readPin (sh.length, 0) 11 [(0, z_r 161)] [] (sh, w1) Q
  refine z_aload_n 0 dX9_readPin_11 rfl rfl ?_
  refine z_getI (ki := 20) zfRX9_205 dX9_readPin_12 hh0.1 rfl rfl ?_
  refine z_if_eq (tgt := 37) dX9_readPin_15 (by decide) (fun c2 => ?_) (fun c2 => ?_)
  · replace h := h.1 c2
    refine z_bipush dX9_readPin_37 (by decide) (by decide) ?_
    refine z_istore_n (L' := [(1, z_i (-2)), (0, z_r 161)]) dX9_readPin_39 rfl (by decide) rfl ?_
    refine z_aload_n 1 dX9_readPin_40 rfl rfl ?_
    refine z_iload_n 0 dX9_readPin_41 rfl rfl ?_
    obtain ⟨m5, h⟩ := h
    suffices hJ3 : z_Sem mX9_readPin (sh.length, 0) 58 [(0, z_r 161), (1, z_i (-2))] [z_i (if (-2) ≤ 0 then 0 else if (f_X9_isPinned w1 (-2)) = 0 then 1 else 0), z_r 161] (sh, w1) Q by
      refine z_if_le (tgt := 57) dX9_readPin_42 (by decide) (fun c4 => ?_) (fun c4 => ?_)
      · skip
        refine z_iconst dX9_readPin_57 (by decide) ?_
        refine z_sub (L' := [(0, z_r 161), (1, z_i (-2))]) [1, 0] rfl ?_
        simp only [if_pos c4] at hJ3
        exact hJ3
      · skip
        have ho7 := m5 c4
        refine z_aload_n 1 dX9_readPin_45 rfl rfl ?_
        refine z_iload_n 0 dX9_readPin_46 rfl rfl ?_
        obtain ⟨q8, ho7⟩ := ho7
        refine z_callV (As := [z_i (-2)]) (rest := [z_r 161]) zmX9_isPinned znX9_isPinned zsX9_isPinned (show vwCl[9]? = some (RX9, TX9, 29) from rfl) zlRX9_103 ⟨Nat.le_of_ble_eq_true rfl, Nat.le_of_ble_eq_true rfl⟩ dX9_readPin_47 hh0.1 rfl rfl (z_ai z_a0) (Nat.le_of_ble_eq_true rfl) (Nat.le_of_ble_eq_true rfl) ⟨Nat.le_refl _, Nat.le_refl _⟩ ?_
        refine t_X9_isPinned hh0 q8 ?_
        show z_Sem mX9_readPin (sh.length, 0) 50 [(1, z_i (-2)), (0, z_r 161)] [z_i (f_X9_isPinned w1 (-2)), z_r 161] (sh, w1) Q
        suffices hJ9 : z_Sem mX9_readPin (sh.length, 0) 58 [(0, z_r 161), (1, z_i (-2))] [z_i (if (f_X9_isPinned w1 (-2)) = 0 then 1 else 0), z_r 161] (sh, w1) Q by
          refine z_if_ne (tgt := 57) dX9_readPin_50 (by decide) (fun c10 => ?_) (fun c10 => ?_)
          · skip
            refine z_iconst dX9_readPin_57 (by decide) ?_
            refine z_sub (L' := [(0, z_r 161), (1, z_i (-2))]) [1, 0] rfl ?_
            simp only [if_neg c10] at hJ9
            exact hJ9
          · skip
            refine z_iconst dX9_readPin_53 (by decide) ?_
            refine z_goto (tgt := 58) dX9_readPin_54 (by decide) ?_
            refine z_sub (L' := [(0, z_r 161), (1, z_i (-2))]) [1, 0] rfl ?_
            simp only [if_pos c10] at hJ9
            exact hJ9
        simp only [if_neg c4] at hJ3
        exact hJ3
    refine z_callV (As := [z_i (if (-2) ≤ 0 then 0 else if (f_X9_isPinned w1 (-2)) = 0 then 1 else 0)]) (rest := []) zmX9_takes znX9_takes zsX9_takes (show vwCl[9]? = some (RX9, TX9, 29) from rfl) zlRX9_215 ⟨Nat.le_of_ble_eq_true rfl, Nat.le_of_ble_eq_true rfl⟩ dX9_readPin_58 hh0.1 rfl rfl (z_ai z_a0) (Nat.le_of_ble_eq_true rfl) (Nat.le_of_ble_eq_true rfl) ⟨Nat.le_refl _, Nat.le_refl _⟩ (z_CVm h ?_)
    intro w13 h
    show z_Sem mX9_readPin (sh.length, 0) 61 [(0, z_r 161), (1, z_i (-2))] [] (sh, w13) Q
    refine z_aload_n 0 dX9_readPin_61 rfl rfl ?_
    refine z_iconst dX9_readPin_62 (by decide) ?_
    refine z_aload_n 0 dX9_readPin_63 rfl rfl ?_
    refine z_getR (r := 163) zfRX9_17 dX9_readPin_64 hh0.1 rfl ?_
    refine z_iconst dX9_readPin_67 (by decide) ?_
    refine z_iald dX9_readPin_68 hh0.2.2.1 (by decide) ?_
    refine z_callV (As := [z_i 0, z_i (w13 163 0)]) (rest := []) zmX9_numberIn znX9_numberIn zsX9_numberIn (show vwCl[9]? = some (RX9, TX9, 29) from rfl) zlRX9_236 ⟨Nat.le_of_ble_eq_true rfl, Nat.le_of_ble_eq_true rfl⟩ dX9_readPin_69 hh0.1 rfl rfl (z_ai (z_ai z_a0)) (Nat.le_of_ble_eq_true rfl) (Nat.le_of_ble_eq_true rfl) ⟨Nat.le_refl _, Nat.le_refl _⟩ (z_CIm h ?_)
    intro y15 w14 h
    show z_Sem mX9_readPin (sh.length, 0) 72 [(0, z_r 161), (1, z_i (-2))] [z_i y15] (sh, w14) Q
    refine z_istore_n (L' := [(2, z_i y15), (0, z_r 161), (1, z_i (-2))]) dX9_readPin_72 rfl (by decide) rfl ?_
    refine z_aload_n 1 dX9_readPin_73 rfl rfl ?_
    refine z_getI (ki := 20) zfRX9_205 dX9_readPin_74 hh0.1 rfl rfl ?_
    refine z_if_eq (tgt := 93) dX9_readPin_77 (by decide) (fun c16 => ?_) (fun c16 => ?_)
    · replace h := h.1 c16
      refine z_aload_n 1 dX9_readPin_93 rfl rfl ?_
      refine z_aload_n 1 dX9_readPin_94 rfl rfl ?_
      refine z_getI (ki := 20) zfRX9_205 dX9_readPin_95 hh0.1 rfl rfl ?_
      refine z_if_eq (tgt := 120) dX9_readPin_98 (by decide) (fun c17 => ?_) (fun c17 => ?_)
      · replace h := h.1 c17
        refine z_iconst dX9_readPin_120 (by decide) ?_
        refine z_callV (As := [z_i 0]) (rest := []) zmX9_takes znX9_takes zsX9_takes (show vwCl[9]? = some (RX9, TX9, 29) from rfl) zlRX9_215 ⟨Nat.le_of_ble_eq_true rfl, Nat.le_of_ble_eq_true rfl⟩ dX9_readPin_121 hh0.1 rfl rfl (z_ai z_a0) (Nat.le_of_ble_eq_true rfl) (Nat.le_of_ble_eq_true rfl) ⟨Nat.le_refl _, Nat.le_refl _⟩ (z_CVm h ?_)
        intro w18 h
        show z_Sem mX9_readPin (sh.length, 0) 124 [(2, z_i y15), (0, z_r 161), (1, z_i (-2))] [] (sh, w18) Q
        exact z_ret (v := none) dX9_readPin_124 ⟨rfl, rfl⟩ rfl rfl h
      · replace h := h.2 c17
        refine z_aload_n 1 dX9_readPin_101 rfl rfl ?_
        refine z_getI (ki := 17) zfRX9_193 dX9_readPin_102 hh0.1 rfl rfl ?_
        refine z_iconst dX9_readPin_105 (by decide) ?_
        refine z_icmp_ne (tgt := 120) dX9_readPin_106 (by decide) (fun c19 => ?_) (fun c19 => ?_)
        · replace h := h.2 c19
          refine z_iconst dX9_readPin_120 (by decide) ?_
          refine z_callV (As := [z_i 0]) (rest := []) zmX9_takes znX9_takes zsX9_takes (show vwCl[9]? = some (RX9, TX9, 29) from rfl) zlRX9_215 ⟨Nat.le_of_ble_eq_true rfl, Nat.le_of_ble_eq_true rfl⟩ dX9_readPin_121 hh0.1 rfl rfl (z_ai z_a0) (Nat.le_of_ble_eq_true rfl) (Nat.le_of_ble_eq_true rfl) ⟨Nat.le_refl _, Nat.le_refl _⟩ (z_CVm h ?_)
          intro w20 h
          show z_Sem mX9_readPin (sh.length, 0) 124 [(2, z_i y15), (0, z_r 161), (1, z_i (-2))] [] (sh, w20) Q
          exact z_ret (v := none) dX9_readPin_124 ⟨rfl, rfl⟩ rfl rfl h
        · replace h := h.1 c19
          refine z_aload_n 1 dX9_readPin_109 rfl rfl ?_
          refine z_callV (As := []) (rest := [z_r 161]) zmX9_lays znX9_lays zsX9_lays (show vwCl[9]? = some (RX9, TX9, 29) from rfl) zlRX9_126 ⟨Nat.le_of_ble_eq_true rfl, Nat.le_of_ble_eq_true rfl⟩ dX9_readPin_110 hh0.1 rfl rfl z_a0 (Nat.le_of_ble_eq_true rfl) (Nat.le_of_ble_eq_true rfl) ⟨Nat.le_refl _, Nat.le_refl _⟩ (z_CIm h ?_)
          intro y22 w21 h
          show z_Sem mX9_readPin (sh.length, 0) 113 [(2, z_i y15), (0, z_r 161), (1, z_i (-2))] [z_i y22, z_r 161] (sh, w21) Q
          suffices hJ23 : z_Sem mX9_readPin (sh.length, 0) 121 [] [z_i (if y22 = 0 then 0 else 1), z_r 161] (sh, w21) Q by
            refine z_if_eq (tgt := 120) dX9_readPin_113 (by decide) (fun c24 => ?_) (fun c24 => ?_)
            · skip
              refine z_iconst dX9_readPin_120 (by decide) ?_
              refine z_sub (L' := []) [] rfl ?_
              simp only [if_pos c24] at hJ23
              exact hJ23
            · skip
              refine z_iconst dX9_readPin_116 (by decide) ?_
              refine z_goto (tgt := 121) dX9_readPin_117 (by decide) ?_
              refine z_sub (L' := []) [] rfl ?_
              simp only [if_neg c24] at hJ23
              exact hJ23
          refine z_callV (As := [z_i (if y22 = 0 then 0 else 1)]) (rest := []) zmX9_takes znX9_takes zsX9_takes (show vwCl[9]? = some (RX9, TX9, 29) from rfl) zlRX9_215 ⟨Nat.le_of_ble_eq_true rfl, Nat.le_of_ble_eq_true rfl⟩ dX9_readPin_121 hh0.1 rfl rfl (z_ai z_a0) (Nat.le_of_ble_eq_true rfl) (Nat.le_of_ble_eq_true rfl) ⟨Nat.le_refl _, Nat.le_refl _⟩ (z_CVm h ?_)
          intro w27 h
          show z_Sem mX9_readPin (sh.length, 0) 124 [] [] (sh, w27) Q
          exact z_ret (v := none) dX9_readPin_124 ⟨rfl, rfl⟩ rfl rfl h
    · replace h := h.2 c16
      refine z_aload_n 1 dX9_readPin_80 rfl rfl ?_
      refine z_getR (r := 163) zfRX9_17 dX9_readPin_81 hh0.1 rfl ?_
      refine z_sipush dX9_readPin_84 (by decide) (by decide) ?_
      refine z_iload_n 2 dX9_readPin_87 rfl rfl ?_
      refine z_iadd dX9_readPin_88 (by decide) ?_
      refine z_iload_n 0 dX9_readPin_89 rfl rfl ?_
      refine z_iconst dX9_readPin_90 (by decide) ?_
      obtain ⟨q28, h⟩ := h
      refine z_iadd dX9_readPin_91 q28 ?_
      refine z_iast dX9_readPin_92 hh0.2.2.1 (by decide) ?_
      refine z_genw (fun w29 hw29 => ?_)
      replace h := h w29 hw29
      refine z_aload_n 1 dX9_readPin_93 rfl rfl ?_
      refine z_aload_n 1 dX9_readPin_94 rfl rfl ?_
      refine z_getI (ki := 20) zfRX9_205 dX9_readPin_95 hh0.1 rfl rfl ?_
      refine z_if_eq (tgt := 120) dX9_readPin_98 (by decide) (fun c30 => ?_) (fun c30 => ?_)
      · replace h := h.1 c30
        refine z_iconst dX9_readPin_120 (by decide) ?_
        refine z_callV (As := [z_i 0]) (rest := []) zmX9_takes znX9_takes zsX9_takes (show vwCl[9]? = some (RX9, TX9, 29) from rfl) zlRX9_215 ⟨Nat.le_of_ble_eq_true rfl, Nat.le_of_ble_eq_true rfl⟩ dX9_readPin_121 hh0.1 rfl rfl (z_ai z_a0) (Nat.le_of_ble_eq_true rfl) (Nat.le_of_ble_eq_true rfl) ⟨Nat.le_refl _, Nat.le_refl _⟩ (z_CVm h ?_)
        intro w31 h
        show z_Sem mX9_readPin (sh.length, 0) 124 [(2, z_i y15), (0, z_r 161), (1, z_i (-2))] [] (sh, w31) Q
        exact z_ret (v := none) dX9_readPin_124 ⟨rfl, rfl⟩ rfl rfl h
      · replace h := h.2 c30
        refine z_aload_n 1 dX9_readPin_101 rfl rfl ?_
        refine z_getI (ki := 17) zfRX9_193 dX9_readPin_102 hh0.1 rfl rfl ?_
        refine z_iconst dX9_readPin_105 (by decide) ?_
        refine z_icmp_ne (tgt := 120) dX9_readPin_106 (by decide) (fun c32 => ?_) (fun c32 => ?_)
        · replace h := h.2 c32
          refine z_iconst dX9_readPin_120 (by decide) ?_
          refine z_callV (As := [z_i 0]) (rest := []) zmX9_takes znX9_takes zsX9_takes (show vwCl[9]? = some (RX9, TX9, 29) from rfl) zlRX9_215 ⟨Nat.le_of_ble_eq_true rfl, Nat.le_of_ble_eq_true rfl⟩ dX9_readPin_121 hh0.1 rfl rfl (z_ai z_a0) (Nat.le_of_ble_eq_true rfl) (Nat.le_of_ble_eq_true rfl) ⟨Nat.le_refl _, Nat.le_refl _⟩ (z_CVm h ?_)
          intro w33 h
          show z_Sem mX9_readPin (sh.length, 0) 124 [(2, z_i y15), (0, z_r 161), (1, z_i (-2))] [] (sh, w33) Q
          exact z_ret (v := none) dX9_readPin_124 ⟨rfl, rfl⟩ rfl rfl h
        · replace h := h.1 c32
          refine z_aload_n 1 dX9_readPin_109 rfl rfl ?_
          refine z_callV (As := []) (rest := [z_r 161]) zmX9_lays znX9_lays zsX9_lays (show vwCl[9]? = some (RX9, TX9, 29) from rfl) zlRX9_126 ⟨Nat.le_of_ble_eq_true rfl, Nat.le_of_ble_eq_true rfl⟩ dX9_readPin_110 hh0.1 rfl rfl z_a0 (Nat.le_of_ble_eq_true rfl) (Nat.le_of_ble_eq_true rfl) ⟨Nat.le_refl _, Nat.le_refl _⟩ (z_CIm h ?_)
          intro y35 w34 h
          show z_Sem mX9_readPin (sh.length, 0) 113 [(2, z_i y15), (0, z_r 161), (1, z_i (-2))] [z_i y35, z_r 161] (sh, w34) Q
          suffices hJ36 : z_Sem mX9_readPin (sh.length, 0) 121 [] [z_i (if y35 = 0 then 0 else 1), z_r 161] (sh, w34) Q by
            refine z_if_eq (tgt := 120) dX9_readPin_113 (by decide) (fun c37 => ?_) (fun c37 => ?_)
            · skip
              refine z_iconst dX9_readPin_120 (by decide) ?_
              refine z_sub (L' := []) [] rfl ?_
              simp only [if_pos c37] at hJ36
              exact hJ36
            · skip
              refine z_iconst dX9_readPin_116 (by decide) ?_
              refine z_goto (tgt := 121) dX9_readPin_117 (by decide) ?_
              refine z_sub (L' := []) [] rfl ?_
              simp only [if_neg c37] at hJ36
              exact hJ36
          refine z_callV (As := [z_i (if y35 = 0 then 0 else 1)]) (rest := []) zmX9_takes znX9_takes zsX9_takes (show vwCl[9]? = some (RX9, TX9, 29) from rfl) zlRX9_215 ⟨Nat.le_of_ble_eq_true rfl, Nat.le_of_ble_eq_true rfl⟩ dX9_readPin_121 hh0.1 rfl rfl (z_ai z_a0) (Nat.le_of_ble_eq_true rfl) (Nat.le_of_ble_eq_true rfl) ⟨Nat.le_refl _, Nat.le_refl _⟩ (z_CVm h ?_)
          intro w40 h
          show z_Sem mX9_readPin (sh.length, 0) 124 [] [] (sh, w40) Q
          exact z_ret (v := none) dX9_readPin_124 ⟨rfl, rfl⟩ rfl rfl h
  · replace h := h.2 c2
    refine z_aload_n 0 dX9_readPin_18 rfl rfl ?_
    refine z_getI (ki := 17) zfRX9_193 dX9_readPin_19 hh0.1 rfl rfl ?_
    refine z_iconst dX9_readPin_22 (by decide) ?_
    refine z_icmp_ne (tgt := 37) dX9_readPin_23 (by decide) (fun c41 => ?_) (fun c41 => ?_)
    · replace h := h.2 c41
      refine z_bipush dX9_readPin_37 (by decide) (by decide) ?_
      refine z_istore_n (L' := [(1, z_i (-2)), (0, z_r 161)]) dX9_readPin_39 rfl (by decide) rfl ?_
      refine z_aload_n 1 dX9_readPin_40 rfl rfl ?_
      refine z_iload_n 0 dX9_readPin_41 rfl rfl ?_
      obtain ⟨m44, h⟩ := h
      suffices hJ42 : z_Sem mX9_readPin (sh.length, 0) 58 [(0, z_r 161), (1, z_i (-2))] [z_i (if (-2) ≤ 0 then 0 else if (f_X9_isPinned w1 (-2)) = 0 then 1 else 0), z_r 161] (sh, w1) Q by
        refine z_if_le (tgt := 57) dX9_readPin_42 (by decide) (fun c43 => ?_) (fun c43 => ?_)
        · skip
          refine z_iconst dX9_readPin_57 (by decide) ?_
          refine z_sub (L' := [(0, z_r 161), (1, z_i (-2))]) [1, 0] rfl ?_
          simp only [if_pos c43] at hJ42
          exact hJ42
        · skip
          have ho46 := m44 c43
          refine z_aload_n 1 dX9_readPin_45 rfl rfl ?_
          refine z_iload_n 0 dX9_readPin_46 rfl rfl ?_
          obtain ⟨q47, ho46⟩ := ho46
          refine z_callV (As := [z_i (-2)]) (rest := [z_r 161]) zmX9_isPinned znX9_isPinned zsX9_isPinned (show vwCl[9]? = some (RX9, TX9, 29) from rfl) zlRX9_103 ⟨Nat.le_of_ble_eq_true rfl, Nat.le_of_ble_eq_true rfl⟩ dX9_readPin_47 hh0.1 rfl rfl (z_ai z_a0) (Nat.le_of_ble_eq_true rfl) (Nat.le_of_ble_eq_true rfl) ⟨Nat.le_refl _, Nat.le_refl _⟩ ?_
          refine t_X9_isPinned hh0 q47 ?_
          show z_Sem mX9_readPin (sh.length, 0) 50 [(1, z_i (-2)), (0, z_r 161)] [z_i (f_X9_isPinned w1 (-2)), z_r 161] (sh, w1) Q
          suffices hJ48 : z_Sem mX9_readPin (sh.length, 0) 58 [(0, z_r 161), (1, z_i (-2))] [z_i (if (f_X9_isPinned w1 (-2)) = 0 then 1 else 0), z_r 161] (sh, w1) Q by
            refine z_if_ne (tgt := 57) dX9_readPin_50 (by decide) (fun c49 => ?_) (fun c49 => ?_)
            · skip
              refine z_iconst dX9_readPin_57 (by decide) ?_
              refine z_sub (L' := [(0, z_r 161), (1, z_i (-2))]) [1, 0] rfl ?_
              simp only [if_neg c49] at hJ48
              exact hJ48
            · skip
              refine z_iconst dX9_readPin_53 (by decide) ?_
              refine z_goto (tgt := 58) dX9_readPin_54 (by decide) ?_
              refine z_sub (L' := [(0, z_r 161), (1, z_i (-2))]) [1, 0] rfl ?_
              simp only [if_pos c49] at hJ48
              exact hJ48
          simp only [if_neg c43] at hJ42
          exact hJ42
      refine z_callV (As := [z_i (if (-2) ≤ 0 then 0 else if (f_X9_isPinned w1 (-2)) = 0 then 1 else 0)]) (rest := []) zmX9_takes znX9_takes zsX9_takes (show vwCl[9]? = some (RX9, TX9, 29) from rfl) zlRX9_215 ⟨Nat.le_of_ble_eq_true rfl, Nat.le_of_ble_eq_true rfl⟩ dX9_readPin_58 hh0.1 rfl rfl (z_ai z_a0) (Nat.le_of_ble_eq_true rfl) (Nat.le_of_ble_eq_true rfl) ⟨Nat.le_refl _, Nat.le_refl _⟩ (z_CVm h ?_)
      intro w52 h
      show z_Sem mX9_readPin (sh.length, 0) 61 [(0, z_r 161), (1, z_i (-2))] [] (sh, w52) Q
      refine z_aload_n 0 dX9_readPin_61 rfl rfl ?_
      refine z_iconst dX9_readPin_62 (by decide) ?_
      refine z_aload_n 0 dX9_readPin_63 rfl rfl ?_
      refine z_getR (r := 163) zfRX9_17 dX9_readPin_64 hh0.1 rfl ?_
      refine z_iconst dX9_readPin_67 (by decide) ?_
      refine z_iald dX9_readPin_68 hh0.2.2.1 (by decide) ?_
      refine z_callV (As := [z_i 0, z_i (w52 163 0)]) (rest := []) zmX9_numberIn znX9_numberIn zsX9_numberIn (show vwCl[9]? = some (RX9, TX9, 29) from rfl) zlRX9_236 ⟨Nat.le_of_ble_eq_true rfl, Nat.le_of_ble_eq_true rfl⟩ dX9_readPin_69 hh0.1 rfl rfl (z_ai (z_ai z_a0)) (Nat.le_of_ble_eq_true rfl) (Nat.le_of_ble_eq_true rfl) ⟨Nat.le_refl _, Nat.le_refl _⟩ (z_CIm h ?_)
      intro y54 w53 h
      show z_Sem mX9_readPin (sh.length, 0) 72 [(0, z_r 161), (1, z_i (-2))] [z_i y54] (sh, w53) Q
      refine z_istore_n (L' := [(2, z_i y54), (0, z_r 161), (1, z_i (-2))]) dX9_readPin_72 rfl (by decide) rfl ?_
      refine z_aload_n 1 dX9_readPin_73 rfl rfl ?_
      refine z_getI (ki := 20) zfRX9_205 dX9_readPin_74 hh0.1 rfl rfl ?_
      refine z_if_eq (tgt := 93) dX9_readPin_77 (by decide) (fun c55 => ?_) (fun c55 => ?_)
      · replace h := h.1 c55
        refine z_aload_n 1 dX9_readPin_93 rfl rfl ?_
        refine z_aload_n 1 dX9_readPin_94 rfl rfl ?_
        refine z_getI (ki := 20) zfRX9_205 dX9_readPin_95 hh0.1 rfl rfl ?_
        refine z_if_eq (tgt := 120) dX9_readPin_98 (by decide) (fun c56 => ?_) (fun c56 => ?_)
        · replace h := h.1 c56
          refine z_iconst dX9_readPin_120 (by decide) ?_
          refine z_callV (As := [z_i 0]) (rest := []) zmX9_takes znX9_takes zsX9_takes (show vwCl[9]? = some (RX9, TX9, 29) from rfl) zlRX9_215 ⟨Nat.le_of_ble_eq_true rfl, Nat.le_of_ble_eq_true rfl⟩ dX9_readPin_121 hh0.1 rfl rfl (z_ai z_a0) (Nat.le_of_ble_eq_true rfl) (Nat.le_of_ble_eq_true rfl) ⟨Nat.le_refl _, Nat.le_refl _⟩ (z_CVm h ?_)
          intro w57 h
          show z_Sem mX9_readPin (sh.length, 0) 124 [(2, z_i y54), (0, z_r 161), (1, z_i (-2))] [] (sh, w57) Q
          exact z_ret (v := none) dX9_readPin_124 ⟨rfl, rfl⟩ rfl rfl h
        · replace h := h.2 c56
          refine z_aload_n 1 dX9_readPin_101 rfl rfl ?_
          refine z_getI (ki := 17) zfRX9_193 dX9_readPin_102 hh0.1 rfl rfl ?_
          refine z_iconst dX9_readPin_105 (by decide) ?_
          refine z_icmp_ne (tgt := 120) dX9_readPin_106 (by decide) (fun c58 => ?_) (fun c58 => ?_)
          · replace h := h.2 c58
            refine z_iconst dX9_readPin_120 (by decide) ?_
            refine z_callV (As := [z_i 0]) (rest := []) zmX9_takes znX9_takes zsX9_takes (show vwCl[9]? = some (RX9, TX9, 29) from rfl) zlRX9_215 ⟨Nat.le_of_ble_eq_true rfl, Nat.le_of_ble_eq_true rfl⟩ dX9_readPin_121 hh0.1 rfl rfl (z_ai z_a0) (Nat.le_of_ble_eq_true rfl) (Nat.le_of_ble_eq_true rfl) ⟨Nat.le_refl _, Nat.le_refl _⟩ (z_CVm h ?_)
            intro w59 h
            show z_Sem mX9_readPin (sh.length, 0) 124 [(2, z_i y54), (0, z_r 161), (1, z_i (-2))] [] (sh, w59) Q
            exact z_ret (v := none) dX9_readPin_124 ⟨rfl, rfl⟩ rfl rfl h
          · replace h := h.1 c58
            refine z_aload_n 1 dX9_readPin_109 rfl rfl ?_
            refine z_callV (As := []) (rest := [z_r 161]) zmX9_lays znX9_lays zsX9_lays (show vwCl[9]? = some (RX9, TX9, 29) from rfl) zlRX9_126 ⟨Nat.le_of_ble_eq_true rfl, Nat.le_of_ble_eq_true rfl⟩ dX9_readPin_110 hh0.1 rfl rfl z_a0 (Nat.le_of_ble_eq_true rfl) (Nat.le_of_ble_eq_true rfl) ⟨Nat.le_refl _, Nat.le_refl _⟩ (z_CIm h ?_)
            intro y61 w60 h
            show z_Sem mX9_readPin (sh.length, 0) 113 [(2, z_i y54), (0, z_r 161), (1, z_i (-2))] [z_i y61, z_r 161] (sh, w60) Q
            suffices hJ62 : z_Sem mX9_readPin (sh.length, 0) 121 [] [z_i (if y61 = 0 then 0 else 1), z_r 161] (sh, w60) Q by
              refine z_if_eq (tgt := 120) dX9_readPin_113 (by decide) (fun c63 => ?_) (fun c63 => ?_)
              · skip
                refine z_iconst dX9_readPin_120 (by decide) ?_
                refine z_sub (L' := []) [] rfl ?_
                simp only [if_pos c63] at hJ62
                exact hJ62
              · skip
                refine z_iconst dX9_readPin_116 (by decide) ?_
                refine z_goto (tgt := 121) dX9_readPin_117 (by decide) ?_
                refine z_sub (L' := []) [] rfl ?_
                simp only [if_neg c63] at hJ62
                exact hJ62
            refine z_callV (As := [z_i (if y61 = 0 then 0 else 1)]) (rest := []) zmX9_takes znX9_takes zsX9_takes (show vwCl[9]? = some (RX9, TX9, 29) from rfl) zlRX9_215 ⟨Nat.le_of_ble_eq_true rfl, Nat.le_of_ble_eq_true rfl⟩ dX9_readPin_121 hh0.1 rfl rfl (z_ai z_a0) (Nat.le_of_ble_eq_true rfl) (Nat.le_of_ble_eq_true rfl) ⟨Nat.le_refl _, Nat.le_refl _⟩ (z_CVm h ?_)
            intro w66 h
            show z_Sem mX9_readPin (sh.length, 0) 124 [] [] (sh, w66) Q
            exact z_ret (v := none) dX9_readPin_124 ⟨rfl, rfl⟩ rfl rfl h
      · replace h := h.2 c55
        refine z_aload_n 1 dX9_readPin_80 rfl rfl ?_
        refine z_getR (r := 163) zfRX9_17 dX9_readPin_81 hh0.1 rfl ?_
        refine z_sipush dX9_readPin_84 (by decide) (by decide) ?_
        refine z_iload_n 2 dX9_readPin_87 rfl rfl ?_
        refine z_iadd dX9_readPin_88 (by decide) ?_
        refine z_iload_n 0 dX9_readPin_89 rfl rfl ?_
        refine z_iconst dX9_readPin_90 (by decide) ?_
        obtain ⟨q67, h⟩ := h
        refine z_iadd dX9_readPin_91 q67 ?_
        refine z_iast dX9_readPin_92 hh0.2.2.1 (by decide) ?_
        refine z_genw (fun w68 hw68 => ?_)
        replace h := h w68 hw68
        refine z_aload_n 1 dX9_readPin_93 rfl rfl ?_
        refine z_aload_n 1 dX9_readPin_94 rfl rfl ?_
        refine z_getI (ki := 20) zfRX9_205 dX9_readPin_95 hh0.1 rfl rfl ?_
        refine z_if_eq (tgt := 120) dX9_readPin_98 (by decide) (fun c69 => ?_) (fun c69 => ?_)
        · replace h := h.1 c69
          refine z_iconst dX9_readPin_120 (by decide) ?_
          refine z_callV (As := [z_i 0]) (rest := []) zmX9_takes znX9_takes zsX9_takes (show vwCl[9]? = some (RX9, TX9, 29) from rfl) zlRX9_215 ⟨Nat.le_of_ble_eq_true rfl, Nat.le_of_ble_eq_true rfl⟩ dX9_readPin_121 hh0.1 rfl rfl (z_ai z_a0) (Nat.le_of_ble_eq_true rfl) (Nat.le_of_ble_eq_true rfl) ⟨Nat.le_refl _, Nat.le_refl _⟩ (z_CVm h ?_)
          intro w70 h
          show z_Sem mX9_readPin (sh.length, 0) 124 [(2, z_i y54), (0, z_r 161), (1, z_i (-2))] [] (sh, w70) Q
          exact z_ret (v := none) dX9_readPin_124 ⟨rfl, rfl⟩ rfl rfl h
        · replace h := h.2 c69
          refine z_aload_n 1 dX9_readPin_101 rfl rfl ?_
          refine z_getI (ki := 17) zfRX9_193 dX9_readPin_102 hh0.1 rfl rfl ?_
          refine z_iconst dX9_readPin_105 (by decide) ?_
          refine z_icmp_ne (tgt := 120) dX9_readPin_106 (by decide) (fun c71 => ?_) (fun c71 => ?_)
          · replace h := h.2 c71
            refine z_iconst dX9_readPin_120 (by decide) ?_
            refine z_callV (As := [z_i 0]) (rest := []) zmX9_takes znX9_takes zsX9_takes (show vwCl[9]? = some (RX9, TX9, 29) from rfl) zlRX9_215 ⟨Nat.le_of_ble_eq_true rfl, Nat.le_of_ble_eq_true rfl⟩ dX9_readPin_121 hh0.1 rfl rfl (z_ai z_a0) (Nat.le_of_ble_eq_true rfl) (Nat.le_of_ble_eq_true rfl) ⟨Nat.le_refl _, Nat.le_refl _⟩ (z_CVm h ?_)
            intro w72 h
            show z_Sem mX9_readPin (sh.length, 0) 124 [(2, z_i y54), (0, z_r 161), (1, z_i (-2))] [] (sh, w72) Q
            exact z_ret (v := none) dX9_readPin_124 ⟨rfl, rfl⟩ rfl rfl h
          · replace h := h.1 c71
            refine z_aload_n 1 dX9_readPin_109 rfl rfl ?_
            refine z_callV (As := []) (rest := [z_r 161]) zmX9_lays znX9_lays zsX9_lays (show vwCl[9]? = some (RX9, TX9, 29) from rfl) zlRX9_126 ⟨Nat.le_of_ble_eq_true rfl, Nat.le_of_ble_eq_true rfl⟩ dX9_readPin_110 hh0.1 rfl rfl z_a0 (Nat.le_of_ble_eq_true rfl) (Nat.le_of_ble_eq_true rfl) ⟨Nat.le_refl _, Nat.le_refl _⟩ (z_CIm h ?_)
            intro y74 w73 h
            show z_Sem mX9_readPin (sh.length, 0) 113 [(2, z_i y54), (0, z_r 161), (1, z_i (-2))] [z_i y74, z_r 161] (sh, w73) Q
            suffices hJ75 : z_Sem mX9_readPin (sh.length, 0) 121 [] [z_i (if y74 = 0 then 0 else 1), z_r 161] (sh, w73) Q by
              refine z_if_eq (tgt := 120) dX9_readPin_113 (by decide) (fun c76 => ?_) (fun c76 => ?_)
              · skip
                refine z_iconst dX9_readPin_120 (by decide) ?_
                refine z_sub (L' := []) [] rfl ?_
                simp only [if_pos c76] at hJ75
                exact hJ75
              · skip
                refine z_iconst dX9_readPin_116 (by decide) ?_
                refine z_goto (tgt := 121) dX9_readPin_117 (by decide) ?_
                refine z_sub (L' := []) [] rfl ?_
                simp only [if_neg c76] at hJ75
                exact hJ75
            refine z_callV (As := [z_i (if y74 = 0 then 0 else 1)]) (rest := []) zmX9_takes znX9_takes zsX9_takes (show vwCl[9]? = some (RX9, TX9, 29) from rfl) zlRX9_215 ⟨Nat.le_of_ble_eq_true rfl, Nat.le_of_ble_eq_true rfl⟩ dX9_readPin_121 hh0.1 rfl rfl (z_ai z_a0) (Nat.le_of_ble_eq_true rfl) (Nat.le_of_ble_eq_true rfl) ⟨Nat.le_refl _, Nat.le_refl _⟩ (z_CVm h ?_)
            intro w79 h
            show z_Sem mX9_readPin (sh.length, 0) 124 [] [] (sh, w79) Q
            exact z_ret (v := none) dX9_readPin_124 ⟨rfl, rfl⟩ rfl rfl h
    · replace h := h.1 c41
      refine z_aload_n 0 dX9_readPin_26 rfl rfl ?_
      refine z_aload_n 0 dX9_readPin_27 rfl rfl ?_
      refine z_getI (ki := 18) zfRX9_184 dX9_readPin_28 hh0.1 rfl rfl ?_
      refine z_callV (As := [z_i (w1 161 18)]) (rest := []) zmX9_named znX9_named zsX9_named (show vwCl[9]? = some (RX9, TX9, 29) from rfl) zlRX9_222 ⟨Nat.le_of_ble_eq_true rfl, Nat.le_of_ble_eq_true rfl⟩ dX9_readPin_31 hh0.1 rfl rfl (z_ai z_a0) (Nat.le_of_ble_eq_true rfl) (Nat.le_of_ble_eq_true rfl) ⟨Nat.le_refl _, Nat.le_refl _⟩ (z_CIm h ?_)
      intro y81 w80 h
      show z_Sem mX9_readPin (sh.length, 0) 34 [(0, z_r 161)] [z_i y81] (sh, w80) Q
      refine z_goto (tgt := 39) dX9_readPin_34 (by decide) ?_
      refine z_istore_n (L' := [(1, z_i y81), (0, z_r 161)]) dX9_readPin_39 rfl (by decide) rfl ?_
      refine z_aload_n 1 dX9_readPin_40 rfl rfl ?_
      refine z_iload_n 0 dX9_readPin_41 rfl rfl ?_
      obtain ⟨m84, h⟩ := h
      suffices hJ82 : z_Sem mX9_readPin (sh.length, 0) 58 [(0, z_r 161), (1, z_i y81)] [z_i (if y81 ≤ 0 then 0 else if (f_X9_isPinned w80 y81) = 0 then 1 else 0), z_r 161] (sh, w80) Q by
        refine z_if_le (tgt := 57) dX9_readPin_42 (by decide) (fun c83 => ?_) (fun c83 => ?_)
        · skip
          refine z_iconst dX9_readPin_57 (by decide) ?_
          refine z_sub (L' := [(0, z_r 161), (1, z_i y81)]) [1, 0] rfl ?_
          simp only [if_pos c83] at hJ82
          exact hJ82
        · skip
          have ho86 := m84 c83
          refine z_aload_n 1 dX9_readPin_45 rfl rfl ?_
          refine z_iload_n 0 dX9_readPin_46 rfl rfl ?_
          obtain ⟨q87, ho86⟩ := ho86
          refine z_callV (As := [z_i y81]) (rest := [z_r 161]) zmX9_isPinned znX9_isPinned zsX9_isPinned (show vwCl[9]? = some (RX9, TX9, 29) from rfl) zlRX9_103 ⟨Nat.le_of_ble_eq_true rfl, Nat.le_of_ble_eq_true rfl⟩ dX9_readPin_47 hh0.1 rfl rfl (z_ai z_a0) (Nat.le_of_ble_eq_true rfl) (Nat.le_of_ble_eq_true rfl) ⟨Nat.le_refl _, Nat.le_refl _⟩ ?_
          refine t_X9_isPinned hh0 q87 ?_
          show z_Sem mX9_readPin (sh.length, 0) 50 [(1, z_i y81), (0, z_r 161)] [z_i (f_X9_isPinned w80 y81), z_r 161] (sh, w80) Q
          suffices hJ88 : z_Sem mX9_readPin (sh.length, 0) 58 [(0, z_r 161), (1, z_i y81)] [z_i (if (f_X9_isPinned w80 y81) = 0 then 1 else 0), z_r 161] (sh, w80) Q by
            refine z_if_ne (tgt := 57) dX9_readPin_50 (by decide) (fun c89 => ?_) (fun c89 => ?_)
            · skip
              refine z_iconst dX9_readPin_57 (by decide) ?_
              refine z_sub (L' := [(0, z_r 161), (1, z_i y81)]) [1, 0] rfl ?_
              simp only [if_neg c89] at hJ88
              exact hJ88
            · skip
              refine z_iconst dX9_readPin_53 (by decide) ?_
              refine z_goto (tgt := 58) dX9_readPin_54 (by decide) ?_
              refine z_sub (L' := [(0, z_r 161), (1, z_i y81)]) [1, 0] rfl ?_
              simp only [if_pos c89] at hJ88
              exact hJ88
          simp only [if_neg c83] at hJ82
          exact hJ82
      refine z_callV (As := [z_i (if y81 ≤ 0 then 0 else if (f_X9_isPinned w80 y81) = 0 then 1 else 0)]) (rest := []) zmX9_takes znX9_takes zsX9_takes (show vwCl[9]? = some (RX9, TX9, 29) from rfl) zlRX9_215 ⟨Nat.le_of_ble_eq_true rfl, Nat.le_of_ble_eq_true rfl⟩ dX9_readPin_58 hh0.1 rfl rfl (z_ai z_a0) (Nat.le_of_ble_eq_true rfl) (Nat.le_of_ble_eq_true rfl) ⟨Nat.le_refl _, Nat.le_refl _⟩ (z_CVm h ?_)
      intro w92 h
      show z_Sem mX9_readPin (sh.length, 0) 61 [(0, z_r 161), (1, z_i y81)] [] (sh, w92) Q
      refine z_aload_n 0 dX9_readPin_61 rfl rfl ?_
      refine z_iconst dX9_readPin_62 (by decide) ?_
      refine z_aload_n 0 dX9_readPin_63 rfl rfl ?_
      refine z_getR (r := 163) zfRX9_17 dX9_readPin_64 hh0.1 rfl ?_
      refine z_iconst dX9_readPin_67 (by decide) ?_
      refine z_iald dX9_readPin_68 hh0.2.2.1 (by decide) ?_
      refine z_callV (As := [z_i 0, z_i (w92 163 0)]) (rest := []) zmX9_numberIn znX9_numberIn zsX9_numberIn (show vwCl[9]? = some (RX9, TX9, 29) from rfl) zlRX9_236 ⟨Nat.le_of_ble_eq_true rfl, Nat.le_of_ble_eq_true rfl⟩ dX9_readPin_69 hh0.1 rfl rfl (z_ai (z_ai z_a0)) (Nat.le_of_ble_eq_true rfl) (Nat.le_of_ble_eq_true rfl) ⟨Nat.le_refl _, Nat.le_refl _⟩ (z_CIm h ?_)
      intro y94 w93 h
      show z_Sem mX9_readPin (sh.length, 0) 72 [(0, z_r 161), (1, z_i y81)] [z_i y94] (sh, w93) Q
      refine z_istore_n (L' := [(2, z_i y94), (0, z_r 161), (1, z_i y81)]) dX9_readPin_72 rfl (by decide) rfl ?_
      refine z_aload_n 1 dX9_readPin_73 rfl rfl ?_
      refine z_getI (ki := 20) zfRX9_205 dX9_readPin_74 hh0.1 rfl rfl ?_
      refine z_if_eq (tgt := 93) dX9_readPin_77 (by decide) (fun c95 => ?_) (fun c95 => ?_)
      · replace h := h.1 c95
        refine z_aload_n 1 dX9_readPin_93 rfl rfl ?_
        refine z_aload_n 1 dX9_readPin_94 rfl rfl ?_
        refine z_getI (ki := 20) zfRX9_205 dX9_readPin_95 hh0.1 rfl rfl ?_
        refine z_if_eq (tgt := 120) dX9_readPin_98 (by decide) (fun c96 => ?_) (fun c96 => ?_)
        · replace h := h.1 c96
          refine z_iconst dX9_readPin_120 (by decide) ?_
          refine z_callV (As := [z_i 0]) (rest := []) zmX9_takes znX9_takes zsX9_takes (show vwCl[9]? = some (RX9, TX9, 29) from rfl) zlRX9_215 ⟨Nat.le_of_ble_eq_true rfl, Nat.le_of_ble_eq_true rfl⟩ dX9_readPin_121 hh0.1 rfl rfl (z_ai z_a0) (Nat.le_of_ble_eq_true rfl) (Nat.le_of_ble_eq_true rfl) ⟨Nat.le_refl _, Nat.le_refl _⟩ (z_CVm h ?_)
          intro w97 h
          show z_Sem mX9_readPin (sh.length, 0) 124 [(2, z_i y94), (0, z_r 161), (1, z_i y81)] [] (sh, w97) Q
          exact z_ret (v := none) dX9_readPin_124 ⟨rfl, rfl⟩ rfl rfl h
        · replace h := h.2 c96
          refine z_aload_n 1 dX9_readPin_101 rfl rfl ?_
          refine z_getI (ki := 17) zfRX9_193 dX9_readPin_102 hh0.1 rfl rfl ?_
          refine z_iconst dX9_readPin_105 (by decide) ?_
          refine z_icmp_ne (tgt := 120) dX9_readPin_106 (by decide) (fun c98 => ?_) (fun c98 => ?_)
          · replace h := h.2 c98
            refine z_iconst dX9_readPin_120 (by decide) ?_
            refine z_callV (As := [z_i 0]) (rest := []) zmX9_takes znX9_takes zsX9_takes (show vwCl[9]? = some (RX9, TX9, 29) from rfl) zlRX9_215 ⟨Nat.le_of_ble_eq_true rfl, Nat.le_of_ble_eq_true rfl⟩ dX9_readPin_121 hh0.1 rfl rfl (z_ai z_a0) (Nat.le_of_ble_eq_true rfl) (Nat.le_of_ble_eq_true rfl) ⟨Nat.le_refl _, Nat.le_refl _⟩ (z_CVm h ?_)
            intro w99 h
            show z_Sem mX9_readPin (sh.length, 0) 124 [(2, z_i y94), (0, z_r 161), (1, z_i y81)] [] (sh, w99) Q
            exact z_ret (v := none) dX9_readPin_124 ⟨rfl, rfl⟩ rfl rfl h
          · replace h := h.1 c98
            refine z_aload_n 1 dX9_readPin_109 rfl rfl ?_
            refine z_callV (As := []) (rest := [z_r 161]) zmX9_lays znX9_lays zsX9_lays (show vwCl[9]? = some (RX9, TX9, 29) from rfl) zlRX9_126 ⟨Nat.le_of_ble_eq_true rfl, Nat.le_of_ble_eq_true rfl⟩ dX9_readPin_110 hh0.1 rfl rfl z_a0 (Nat.le_of_ble_eq_true rfl) (Nat.le_of_ble_eq_true rfl) ⟨Nat.le_refl _, Nat.le_refl _⟩ (z_CIm h ?_)
            intro y101 w100 h
            show z_Sem mX9_readPin (sh.length, 0) 113 [(2, z_i y94), (0, z_r 161), (1, z_i y81)] [z_i y101, z_r 161] (sh, w100) Q
            suffices hJ102 : z_Sem mX9_readPin (sh.length, 0) 121 [] [z_i (if y101 = 0 then 0 else 1), z_r 161] (sh, w100) Q by
              refine z_if_eq (tgt := 120) dX9_readPin_113 (by decide) (fun c103 => ?_) (fun c103 => ?_)
              · skip
                refine z_iconst dX9_readPin_120 (by decide) ?_
                refine z_sub (L' := []) [] rfl ?_
                simp only [if_pos c103] at hJ102
                exact hJ102
              · skip
                refine z_iconst dX9_readPin_116 (by decide) ?_
                refine z_goto (tgt := 121) dX9_readPin_117 (by decide) ?_
                refine z_sub (L' := []) [] rfl ?_
                simp only [if_neg c103] at hJ102
                exact hJ102
            refine z_callV (As := [z_i (if y101 = 0 then 0 else 1)]) (rest := []) zmX9_takes znX9_takes zsX9_takes (show vwCl[9]? = some (RX9, TX9, 29) from rfl) zlRX9_215 ⟨Nat.le_of_ble_eq_true rfl, Nat.le_of_ble_eq_true rfl⟩ dX9_readPin_121 hh0.1 rfl rfl (z_ai z_a0) (Nat.le_of_ble_eq_true rfl) (Nat.le_of_ble_eq_true rfl) ⟨Nat.le_refl _, Nat.le_refl _⟩ (z_CVm h ?_)
            intro w106 h
            show z_Sem mX9_readPin (sh.length, 0) 124 [] [] (sh, w106) Q
            exact z_ret (v := none) dX9_readPin_124 ⟨rfl, rfl⟩ rfl rfl h
      · replace h := h.2 c95
        refine z_aload_n 1 dX9_readPin_80 rfl rfl ?_
        refine z_getR (r := 163) zfRX9_17 dX9_readPin_81 hh0.1 rfl ?_
        refine z_sipush dX9_readPin_84 (by decide) (by decide) ?_
        refine z_iload_n 2 dX9_readPin_87 rfl rfl ?_
        obtain ⟨q107, h⟩ := h
        refine z_iadd dX9_readPin_88 q107 ?_
        refine z_iload_n 0 dX9_readPin_89 rfl rfl ?_
        refine z_iconst dX9_readPin_90 (by decide) ?_
        obtain ⟨q108, h⟩ := h
        refine z_iadd dX9_readPin_91 q108 ?_
        obtain ⟨q110, h⟩ := h
        refine z_iast dX9_readPin_92 hh0.2.2.1 q110 ?_
        refine z_genw (fun w109 hw109 => ?_)
        replace h := h w109 hw109
        refine z_aload_n 1 dX9_readPin_93 rfl rfl ?_
        refine z_aload_n 1 dX9_readPin_94 rfl rfl ?_
        refine z_getI (ki := 20) zfRX9_205 dX9_readPin_95 hh0.1 rfl rfl ?_
        refine z_if_eq (tgt := 120) dX9_readPin_98 (by decide) (fun c111 => ?_) (fun c111 => ?_)
        · replace h := h.1 c111
          refine z_iconst dX9_readPin_120 (by decide) ?_
          refine z_callV (As := [z_i 0]) (rest := []) zmX9_takes znX9_takes zsX9_takes (show vwCl[9]? = some (RX9, TX9, 29) from rfl) zlRX9_215 ⟨Nat.le_of_ble_eq_true rfl, Nat.le_of_ble_eq_true rfl⟩ dX9_readPin_121 hh0.1 rfl rfl (z_ai z_a0) (Nat.le_of_ble_eq_true rfl) (Nat.le_of_ble_eq_true rfl) ⟨Nat.le_refl _, Nat.le_refl _⟩ (z_CVm h ?_)
          intro w112 h
          show z_Sem mX9_readPin (sh.length, 0) 124 [(2, z_i y94), (0, z_r 161), (1, z_i y81)] [] (sh, w112) Q
          exact z_ret (v := none) dX9_readPin_124 ⟨rfl, rfl⟩ rfl rfl h
        · replace h := h.2 c111
          refine z_aload_n 1 dX9_readPin_101 rfl rfl ?_
          refine z_getI (ki := 17) zfRX9_193 dX9_readPin_102 hh0.1 rfl rfl ?_
          refine z_iconst dX9_readPin_105 (by decide) ?_
          refine z_icmp_ne (tgt := 120) dX9_readPin_106 (by decide) (fun c113 => ?_) (fun c113 => ?_)
          · replace h := h.2 c113
            refine z_iconst dX9_readPin_120 (by decide) ?_
            refine z_callV (As := [z_i 0]) (rest := []) zmX9_takes znX9_takes zsX9_takes (show vwCl[9]? = some (RX9, TX9, 29) from rfl) zlRX9_215 ⟨Nat.le_of_ble_eq_true rfl, Nat.le_of_ble_eq_true rfl⟩ dX9_readPin_121 hh0.1 rfl rfl (z_ai z_a0) (Nat.le_of_ble_eq_true rfl) (Nat.le_of_ble_eq_true rfl) ⟨Nat.le_refl _, Nat.le_refl _⟩ (z_CVm h ?_)
            intro w114 h
            show z_Sem mX9_readPin (sh.length, 0) 124 [(2, z_i y94), (0, z_r 161), (1, z_i y81)] [] (sh, w114) Q
            exact z_ret (v := none) dX9_readPin_124 ⟨rfl, rfl⟩ rfl rfl h
          · replace h := h.1 c113
            refine z_aload_n 1 dX9_readPin_109 rfl rfl ?_
            refine z_callV (As := []) (rest := [z_r 161]) zmX9_lays znX9_lays zsX9_lays (show vwCl[9]? = some (RX9, TX9, 29) from rfl) zlRX9_126 ⟨Nat.le_of_ble_eq_true rfl, Nat.le_of_ble_eq_true rfl⟩ dX9_readPin_110 hh0.1 rfl rfl z_a0 (Nat.le_of_ble_eq_true rfl) (Nat.le_of_ble_eq_true rfl) ⟨Nat.le_refl _, Nat.le_refl _⟩ (z_CIm h ?_)
            intro y116 w115 h
            show z_Sem mX9_readPin (sh.length, 0) 113 [(2, z_i y94), (0, z_r 161), (1, z_i y81)] [z_i y116, z_r 161] (sh, w115) Q
            suffices hJ117 : z_Sem mX9_readPin (sh.length, 0) 121 [] [z_i (if y116 = 0 then 0 else 1), z_r 161] (sh, w115) Q by
              refine z_if_eq (tgt := 120) dX9_readPin_113 (by decide) (fun c118 => ?_) (fun c118 => ?_)
              · skip
                refine z_iconst dX9_readPin_120 (by decide) ?_
                refine z_sub (L' := []) [] rfl ?_
                simp only [if_pos c118] at hJ117
                exact hJ117
              · skip
                refine z_iconst dX9_readPin_116 (by decide) ?_
                refine z_goto (tgt := 121) dX9_readPin_117 (by decide) ?_
                refine z_sub (L' := []) [] rfl ?_
                simp only [if_neg c118] at hJ117
                exact hJ117
            refine z_callV (As := [z_i (if y116 = 0 then 0 else 1)]) (rest := []) zmX9_takes znX9_takes zsX9_takes (show vwCl[9]? = some (RX9, TX9, 29) from rfl) zlRX9_215 ⟨Nat.le_of_ble_eq_true rfl, Nat.le_of_ble_eq_true rfl⟩ dX9_readPin_121 hh0.1 rfl rfl (z_ai z_a0) (Nat.le_of_ble_eq_true rfl) (Nat.le_of_ble_eq_true rfl) ⟨Nat.le_refl _, Nat.le_refl _⟩ (z_CVm h ?_)
            intro w121 h
            show z_Sem mX9_readPin (sh.length, 0) 124 [] [] (sh, w121) Q
            exact z_ret (v := none) dX9_readPin_124 ⟨rfl, rfl⟩ rfl rfl h
set_option maxRecDepth 100000 in
theorem t_X9_load {sh : List z_C} {w : Nat → Int → Int} {Q : Option z_V → z_S → Prop}  (hh0 : z_isMod sh 161) (h : z_CV mX9_begins [z_r 161] sh w (fun w1 => z_Sem mX9_load (sh.length, 0) 6 [(0, z_r 161), (1, z_i 0)] [] (sh, w1) Q)) : z_Sem mX9_load (sh.length, 0) 0 [(0, z_r 161)] [] (sh, w) Q := by
  refine z_aload_n 0 dX9_load_0 rfl rfl ?_
  refine z_callV (As := []) (rest := []) zmX9_begins znX9_begins zsX9_begins (show vwCl[9]? = some (RX9, TX9, 29) from rfl) zlRX9_69 ⟨Nat.le_of_ble_eq_true rfl, Nat.le_of_ble_eq_true rfl⟩ dX9_load_1 hh0.1 rfl rfl z_a0 (Nat.le_of_ble_eq_true rfl) (Nat.le_of_ble_eq_true rfl) ⟨Nat.le_refl _, Nat.le_refl _⟩ (z_CVm h ?_)
  intro w1 h
  show z_Sem mX9_load (sh.length, 0) 4 [(0, z_r 161)] [] (sh, w1) Q
  refine z_iconst dX9_load_4 (by decide) ?_
  refine z_istore_n (L' := [(1, z_i 0), (0, z_r 161)]) dX9_load_5 rfl (by decide) rfl ?_
  refine z_sub (L' := [(0, z_r 161), (1, z_i 0)]) [1, 0] rfl ?_
  exact h
set_option maxRecDepth 100000 in
theorem t_X9_load_6 {sh : List z_C} {w : Nat → Int → Int} {Q : Option z_V → z_S → Prop} {x1 : Int} (hh0 : z_isMod sh 161) (h : ((264 ≤ x1 → ∀ w2 : Nat → Int → Int, w2 = z_W w 163 1 1 → ∀ w3 : Nat → Int → Int, w3 = z_W w2 163 3 20579924 → ∀ w4 : Nat → Int → Int, w4 = z_W w3 161 15 0 → ∀ w5 : Nat → Int → Int, w5 = z_W w4 161 20 1 → ∀ w6 : Nat → Int → Int, w6 = z_W w5 161 2 (-2) → z_CV mX9_nextToken [z_r 161] sh w6 (fun w7 => z_CV mX9_takes [z_r 161, z_i (f_X9_isKey w7 5572)] sh w7 (fun w8 => z_CI mX9_numberIn [z_r 161, z_i 1, z_i 999] sh w8 (fun y10 w9 => ∀ w11 : Nat → Int → Int, w11 = z_W w9 163 0 y10 → z_CV mX9_takes [z_r 161, z_i (if (w11 161 17) = 3 then 1 else 0)] sh w11 (fun w16 => z_Sem mX9_load (sh.length, 0) 103 [(0, z_r 161)] [] (sh, w16) Q))))) ∧ (¬ 264 ≤ x1 → ((0 : Int) ≤ x1 ∧ x1 < 264) ∧ ∀ w17 : Nat → Int → Int, w17 = z_W w 163 x1 0 → (z_R (x1 + 1)) ∧ z_Sem mX9_load (sh.length, 0) 6 [(0, z_r 161), (1, z_i (x1 + 1))] [] (sh, w17) Q))) : z_Sem mX9_load (sh.length, 0) 6 [(0, z_r 161), (1, z_i x1)] [] (sh, w) Q := by
  refine z_iload_n 1 dX9_load_6 rfl rfl ?_
  refine z_sipush dX9_load_7 (by decide) (by decide) ?_
  refine z_icmp_ge (tgt := 26) dX9_load_10 (by decide) (fun c1 => ?_) (fun c1 => ?_)
  · replace h := h.1 c1
    refine z_aload_n 0 dX9_load_26 rfl rfl ?_
    refine z_getR (r := 163) zfRX9_17 dX9_load_27 hh0.1 rfl ?_
    refine z_iconst dX9_load_30 (by decide) ?_
    refine z_iconst dX9_load_31 (by decide) ?_
    refine z_iast dX9_load_32 hh0.2.2.1 (by decide) ?_
    refine z_genw (fun w2 hw2 => ?_)
    replace h := h w2 hw2
    refine z_aload_n 0 dX9_load_33 rfl rfl ?_
    refine z_getR (r := 163) zfRX9_17 dX9_load_34 hh0.1 rfl ?_
    refine z_iconst dX9_load_37 (by decide) ?_
    refine z_ldc (n := 20579924) zkRX9_61 dX9_load_38 (by decide) (by decide) ?_
    refine z_iast dX9_load_40 hh0.2.2.1 (by decide) ?_
    refine z_genw (fun w3 hw3 => ?_)
    replace h := h w3 hw3
    refine z_aload_n 0 dX9_load_41 rfl rfl ?_
    refine z_iconst dX9_load_42 (by decide) ?_
    refine z_putI (ki := 15) zfRX9_178 dX9_load_43 hh0.1 rfl rfl ?_
    refine z_genw (fun w4 hw4 => ?_)
    replace h := h w4 hw4
    refine z_aload_n 0 dX9_load_46 rfl rfl ?_
    refine z_iconst dX9_load_47 (by decide) ?_
    refine z_putZ (ki := 20) zfRX9_205 dX9_load_48 hh0.1 rfl rfl (by decide) ?_
    refine z_genw (fun w5 hw5 => ?_)
    replace h := h w5 hw5
    refine z_aload_n 0 dX9_load_51 rfl rfl ?_
    refine z_bipush dX9_load_52 (by decide) (by decide) ?_
    refine z_putI (ki := 2) zfRX9_13 dX9_load_54 hh0.1 rfl rfl ?_
    refine z_genw (fun w6 hw6 => ?_)
    replace h := h w6 hw6
    refine z_aload_n 0 dX9_load_57 rfl rfl ?_
    refine z_callV (As := []) (rest := []) zmX9_nextToken znX9_nextToken zsX9_nextToken (show vwCl[9]? = some (RX9, TX9, 29) from rfl) zlRX9_209 ⟨Nat.le_of_ble_eq_true rfl, Nat.le_of_ble_eq_true rfl⟩ dX9_load_58 hh0.1 rfl rfl z_a0 (Nat.le_of_ble_eq_true rfl) (Nat.le_of_ble_eq_true rfl) ⟨Nat.le_refl _, Nat.le_refl _⟩ (z_CVm h ?_)
    intro w7 h
    show z_Sem mX9_load (sh.length, 0) 61 [(0, z_r 161), (1, z_i x1)] [] (sh, w7) Q
    refine z_aload_n 0 dX9_load_61 rfl rfl ?_
    refine z_aload_n 0 dX9_load_62 rfl rfl ?_
    refine z_sipush dX9_load_63 (by decide) (by decide) ?_
    refine z_callV (As := [z_i 5572]) (rest := [z_r 161]) zmX9_isKey znX9_isKey zsX9_isKey (show vwCl[9]? = some (RX9, TX9, 29) from rfl) zlRX9_232 ⟨Nat.le_of_ble_eq_true rfl, Nat.le_of_ble_eq_true rfl⟩ dX9_load_66 hh0.1 rfl rfl (z_ai z_a0) (Nat.le_of_ble_eq_true rfl) (Nat.le_of_ble_eq_true rfl) ⟨Nat.le_refl _, Nat.le_refl _⟩ ?_
    refine t_X9_isKey hh0 ?_
    show z_Sem mX9_load (sh.length, 0) 69 [(0, z_r 161), (1, z_i x1)] [z_i (f_X9_isKey w7 5572), z_r 161] (sh, w7) Q
    refine z_callV (As := [z_i (f_X9_isKey w7 5572)]) (rest := []) zmX9_takes znX9_takes zsX9_takes (show vwCl[9]? = some (RX9, TX9, 29) from rfl) zlRX9_215 ⟨Nat.le_of_ble_eq_true rfl, Nat.le_of_ble_eq_true rfl⟩ dX9_load_69 hh0.1 rfl rfl (z_ai z_a0) (Nat.le_of_ble_eq_true rfl) (Nat.le_of_ble_eq_true rfl) ⟨Nat.le_refl _, Nat.le_refl _⟩ (z_CVm h ?_)
    intro w8 h
    show z_Sem mX9_load (sh.length, 0) 72 [(0, z_r 161), (1, z_i x1)] [] (sh, w8) Q
    refine z_aload_n 0 dX9_load_72 rfl rfl ?_
    refine z_getR (r := 163) zfRX9_17 dX9_load_73 hh0.1 rfl ?_
    refine z_iconst dX9_load_76 (by decide) ?_
    refine z_aload_n 0 dX9_load_77 rfl rfl ?_
    refine z_iconst dX9_load_78 (by decide) ?_
    refine z_sipush dX9_load_79 (by decide) (by decide) ?_
    refine z_callV (As := [z_i 1, z_i 999]) (rest := [z_i 0, z_r 163]) zmX9_numberIn znX9_numberIn zsX9_numberIn (show vwCl[9]? = some (RX9, TX9, 29) from rfl) zlRX9_236 ⟨Nat.le_of_ble_eq_true rfl, Nat.le_of_ble_eq_true rfl⟩ dX9_load_82 hh0.1 rfl rfl (z_ai (z_ai z_a0)) (Nat.le_of_ble_eq_true rfl) (Nat.le_of_ble_eq_true rfl) ⟨Nat.le_refl _, Nat.le_refl _⟩ (z_CIm h ?_)
    intro y10 w9 h
    show z_Sem mX9_load (sh.length, 0) 85 [(0, z_r 161), (1, z_i x1)] [z_i y10, z_i 0, z_r 163] (sh, w9) Q
    refine z_iast dX9_load_85 hh0.2.2.1 (by decide) ?_
    refine z_genw (fun w11 hw11 => ?_)
    replace h := h w11 hw11
    refine z_aload_n 0 dX9_load_86 rfl rfl ?_
    refine z_aload_n 0 dX9_load_87 rfl rfl ?_
    refine z_getI (ki := 17) zfRX9_193 dX9_load_88 hh0.1 rfl rfl ?_
    refine z_iconst dX9_load_91 (by decide) ?_
    suffices hJ12 : z_Sem mX9_load (sh.length, 0) 100 [(0, z_r 161)] [z_i (if (w11 161 17) = 3 then 1 else 0), z_r 161] (sh, w11) Q by
      refine z_icmp_ne (tgt := 99) dX9_load_92 (by decide) (fun c13 => ?_) (fun c13 => ?_)
      · skip
        refine z_iconst dX9_load_99 (by decide) ?_
        refine z_sub (L' := [(0, z_r 161)]) [0] rfl ?_
        simp only [if_neg c13] at hJ12
        exact hJ12
      · skip
        refine z_iconst dX9_load_95 (by decide) ?_
        refine z_goto (tgt := 100) dX9_load_96 (by decide) ?_
        refine z_sub (L' := [(0, z_r 161)]) [0] rfl ?_
        simp only [if_pos c13] at hJ12
        exact hJ12
    refine z_callV (As := [z_i (if (w11 161 17) = 3 then 1 else 0)]) (rest := []) zmX9_takes znX9_takes zsX9_takes (show vwCl[9]? = some (RX9, TX9, 29) from rfl) zlRX9_215 ⟨Nat.le_of_ble_eq_true rfl, Nat.le_of_ble_eq_true rfl⟩ dX9_load_100 hh0.1 rfl rfl (z_ai z_a0) (Nat.le_of_ble_eq_true rfl) (Nat.le_of_ble_eq_true rfl) ⟨Nat.le_refl _, Nat.le_refl _⟩ (z_CVm h ?_)
    intro w16 h
    show z_Sem mX9_load (sh.length, 0) 103 [(0, z_r 161)] [] (sh, w16) Q
    exact h
  · replace h := h.2 c1
    refine z_aload_n 0 dX9_load_13 rfl rfl ?_
    refine z_getR (r := 163) zfRX9_17 dX9_load_14 hh0.1 rfl ?_
    refine z_iload_n 1 dX9_load_17 rfl rfl ?_
    refine z_iconst dX9_load_18 (by decide) ?_
    obtain ⟨q18, h⟩ := h
    refine z_iast dX9_load_19 hh0.2.2.1 q18 ?_
    refine z_genw (fun w17 hw17 => ?_)
    replace h := h w17 hw17
    obtain ⟨q19, h⟩ := h
    refine z_iinc (L' := [(1, z_i (x1 + 1)), (0, z_r 161)]) 1 dX9_load_20 rfl (by decide) rfl q19 ?_
    refine z_goto (tgt := 6) dX9_load_23 (by decide) ?_
    refine z_sub (L' := [(0, z_r 161), (1, z_i (x1 + 1))]) [1, 0] rfl ?_
    exact h
set_option maxRecDepth 100000 in
theorem t_X9_load_103 {sh : List z_C} {w : Nat → Int → Int} {Q : Option z_V → z_S → Prop}  (hh0 : z_isMod sh 161) (h : (((f_X9_isKey w 5969364) = 0 → z_Sem mX9_load (sh.length, 0) 119 [(0, z_r 161)] [] (sh, w) Q) ∧ (¬ (f_X9_isKey w 5969364) = 0 → z_CV mX9_readEvent [z_r 161] sh w (fun w2 => z_Sem mX9_load (sh.length, 0) 103 [(0, z_r 161)] [] (sh, w2) Q)))) : z_Sem mX9_load (sh.length, 0) 103 [(0, z_r 161)] [] (sh, w) Q := by
  refine z_aload_n 0 dX9_load_103 rfl rfl ?_
  refine z_ldc (n := 5969364) zkRX9_239 dX9_load_104 (by decide) (by decide) ?_
  refine z_callV (As := [z_i 5969364]) (rest := []) zmX9_isKey znX9_isKey zsX9_isKey (show vwCl[9]? = some (RX9, TX9, 29) from rfl) zlRX9_232 ⟨Nat.le_of_ble_eq_true rfl, Nat.le_of_ble_eq_true rfl⟩ dX9_load_106 hh0.1 rfl rfl (z_ai z_a0) (Nat.le_of_ble_eq_true rfl) (Nat.le_of_ble_eq_true rfl) ⟨Nat.le_refl _, Nat.le_refl _⟩ ?_
  refine t_X9_isKey hh0 ?_
  show z_Sem mX9_load (sh.length, 0) 109 [(0, z_r 161)] [z_i (f_X9_isKey w 5969364)] (sh, w) Q
  refine z_if_eq (tgt := 119) dX9_load_109 (by decide) (fun c1 => ?_) (fun c1 => ?_)
  · replace h := h.1 c1
    exact h
  · replace h := h.2 c1
    refine z_aload_n 0 dX9_load_112 rfl rfl ?_
    refine z_callV (As := []) (rest := []) zmX9_readEvent znX9_readEvent zsX9_readEvent (show vwCl[9]? = some (RX9, TX9, 29) from rfl) zlRX9_240 ⟨Nat.le_of_ble_eq_true rfl, Nat.le_of_ble_eq_true rfl⟩ dX9_load_113 hh0.1 rfl rfl z_a0 (Nat.le_of_ble_eq_true rfl) (Nat.le_of_ble_eq_true rfl) ⟨Nat.le_refl _, Nat.le_refl _⟩ (z_CVm h ?_)
    intro w2 h
    show z_Sem mX9_load (sh.length, 0) 116 [(0, z_r 161)] [] (sh, w2) Q
    refine z_goto (tgt := 103) dX9_load_116 (by decide) ?_
    exact h
set_option maxRecDepth 100000 in
theorem t_X9_load_119 {sh : List z_C} {w : Nat → Int → Int} {Q : Option z_V → z_S → Prop}  (hh0 : z_isMod sh 161) (h : (((f_X9_isKey w 7216) = 0 → z_Sem mX9_load (sh.length, 0) 136 [(0, z_r 161)] [] (sh, w) Q) ∧ (¬ (f_X9_isKey w 7216) = 0 → z_CV mX9_readGap [z_r 161] sh w (fun w2 => z_Sem mX9_load (sh.length, 0) 119 [(0, z_r 161)] [] (sh, w2) Q)))) : z_Sem mX9_load (sh.length, 0) 119 [(0, z_r 161)] [] (sh, w) Q := by
  refine z_aload_n 0 dX9_load_119 rfl rfl ?_
  refine z_sipush dX9_load_120 (by decide) (by decide) ?_
  refine z_callV (As := [z_i 7216]) (rest := []) zmX9_isKey znX9_isKey zsX9_isKey (show vwCl[9]? = some (RX9, TX9, 29) from rfl) zlRX9_232 ⟨Nat.le_of_ble_eq_true rfl, Nat.le_of_ble_eq_true rfl⟩ dX9_load_123 hh0.1 rfl rfl (z_ai z_a0) (Nat.le_of_ble_eq_true rfl) (Nat.le_of_ble_eq_true rfl) ⟨Nat.le_refl _, Nat.le_refl _⟩ ?_
  refine t_X9_isKey hh0 ?_
  show z_Sem mX9_load (sh.length, 0) 126 [(0, z_r 161)] [z_i (f_X9_isKey w 7216)] (sh, w) Q
  refine z_if_eq (tgt := 136) dX9_load_126 (by decide) (fun c1 => ?_) (fun c1 => ?_)
  · replace h := h.1 c1
    exact h
  · replace h := h.2 c1
    refine z_aload_n 0 dX9_load_129 rfl rfl ?_
    refine z_callV (As := []) (rest := []) zmX9_readGap znX9_readGap zsX9_readGap (show vwCl[9]? = some (RX9, TX9, 29) from rfl) zlRX9_243 ⟨Nat.le_of_ble_eq_true rfl, Nat.le_of_ble_eq_true rfl⟩ dX9_load_130 hh0.1 rfl rfl z_a0 (Nat.le_of_ble_eq_true rfl) (Nat.le_of_ble_eq_true rfl) ⟨Nat.le_refl _, Nat.le_refl _⟩ (z_CVm h ?_)
    intro w2 h
    show z_Sem mX9_load (sh.length, 0) 133 [(0, z_r 161)] [] (sh, w2) Q
    refine z_goto (tgt := 119) dX9_load_133 (by decide) ?_
    exact h
set_option maxRecDepth 100000 in
theorem t_X9_load_136 {sh : List z_C} {w : Nat → Int → Int} {Q : Option z_V → z_S → Prop}  (hh0 : z_isMod sh 161) (h : (((w 161 20) = 0 → ∀ w2 : Nat → Int → Int, w2 = z_W w 161 1 0 → (((w2 161 20) = 0 → z_CI mX9_fails [z_r 161, z_i (-1)] sh w2 (fun y8 w7 => Q (some (z_i y8)) (sh, w7))) ∧ (¬ (w2 161 20) = 0 → ∀ w4 : Nat → Int → Int, w4 = z_W w2 161 8 0 → ∀ w5 : Nat → Int → Int, w5 = z_W w4 167 0 0 → ∀ w6 : Nat → Int → Int, w6 = z_W w5 167 1 0 → Q (some (z_i (w6 163 2))) (sh, w6)))) ∧ (¬ (w 161 20) = 0 → (((w 161 17) = 0 → ∀ w10 : Nat → Int → Int, w10 = z_W w 161 1 0 → (((w10 161 20) = 0 → z_CI mX9_fails [z_r 161, z_i (-1)] sh w10 (fun y16 w15 => Q (some (z_i y16)) (sh, w15))) ∧ (¬ (w10 161 20) = 0 → ∀ w12 : Nat → Int → Int, w12 = z_W w10 161 8 0 → ∀ w13 : Nat → Int → Int, w13 = z_W w12 167 0 0 → ∀ w14 : Nat → Int → Int, w14 = z_W w13 167 1 0 → Q (some (z_i (w14 163 2))) (sh, w14)))) ∧ (¬ (w 161 17) = 0 → z_CV mX9_readPin [z_r 161] sh w (fun w17 => z_Sem mX9_load (sh.length, 0) 136 [(0, z_r 161)] [] (sh, w17) Q)))))) : z_Sem mX9_load (sh.length, 0) 136 [(0, z_r 161)] [] (sh, w) Q := by
  refine z_aload_n 0 dX9_load_136 rfl rfl ?_
  refine z_getI (ki := 20) zfRX9_205 dX9_load_137 hh0.1 rfl rfl ?_
  refine z_if_eq (tgt := 157) dX9_load_140 (by decide) (fun c1 => ?_) (fun c1 => ?_)
  · replace h := h.1 c1
    refine z_aload_n 0 dX9_load_157 rfl rfl ?_
    refine z_iconst dX9_load_158 (by decide) ?_
    refine z_putI (ki := 1) zfRX9_181 dX9_load_159 hh0.1 rfl rfl ?_
    refine z_genw (fun w2 hw2 => ?_)
    replace h := h w2 hw2
    refine z_aload_n 0 dX9_load_162 rfl rfl ?_
    refine z_getI (ki := 20) zfRX9_205 dX9_load_163 hh0.1 rfl rfl ?_
    refine z_if_ne (tgt := 175) dX9_load_166 (by decide) (fun c3 => ?_) (fun c3 => ?_)
    · replace h := h.2 c3
      refine z_aload_n 0 dX9_load_175 rfl rfl ?_
      refine z_iconst dX9_load_176 (by decide) ?_
      refine z_putI (ki := 8) zfRX9_62 dX9_load_177 hh0.1 rfl rfl ?_
      refine z_genw (fun w4 hw4 => ?_)
      replace h := h w4 hw4
      refine z_aload_n 0 dX9_load_180 rfl rfl ?_
      refine z_getR (r := 167) zfRX9_30 dX9_load_181 hh0.1 rfl ?_
      refine z_iconst dX9_load_184 (by decide) ?_
      refine z_iconst dX9_load_185 (by decide) ?_
      refine z_zast dX9_load_186 hh0.2.2.2.2.2.2.1 (by decide) (by decide) ?_
      refine z_genw (fun w5 hw5 => ?_)
      replace h := h w5 hw5
      refine z_aload_n 0 dX9_load_187 rfl rfl ?_
      refine z_getR (r := 167) zfRX9_30 dX9_load_188 hh0.1 rfl ?_
      refine z_iconst dX9_load_191 (by decide) ?_
      refine z_iconst dX9_load_192 (by decide) ?_
      refine z_zast dX9_load_193 hh0.2.2.2.2.2.2.1 (by decide) (by decide) ?_
      refine z_genw (fun w6 hw6 => ?_)
      replace h := h w6 hw6
      refine z_aload_n 0 dX9_load_194 rfl rfl ?_
      refine z_getR (r := 163) zfRX9_17 dX9_load_195 hh0.1 rfl ?_
      refine z_iconst dX9_load_198 (by decide) ?_
      refine z_iald dX9_load_199 hh0.2.2.1 (by decide) ?_
      exact z_ret (v := some (z_i (w6 163 2))) dX9_load_200 ⟨rfl, Or.inl rfl⟩ rfl rfl h
    · replace h := h.1 c3
      refine z_aload_n 0 dX9_load_169 rfl rfl ?_
      refine z_iconst dX9_load_170 (by decide) ?_
      refine z_callV (As := [z_i (-1)]) (rest := []) zmX9_fails znX9_fails zsX9_fails (show vwCl[9]? = some (RX9, TX9, 29) from rfl) zlRX9_137 ⟨Nat.le_of_ble_eq_true rfl, Nat.le_of_ble_eq_true rfl⟩ dX9_load_171 hh0.1 rfl rfl (z_ai z_a0) (Nat.le_of_ble_eq_true rfl) (Nat.le_of_ble_eq_true rfl) ⟨Nat.le_refl _, Nat.le_refl _⟩ (z_CIm h ?_)
      intro y8 w7 h
      show z_Sem mX9_load (sh.length, 0) 174 [(0, z_r 161)] [z_i y8] (sh, w7) Q
      exact z_ret (v := some (z_i y8)) dX9_load_174 ⟨rfl, Or.inl rfl⟩ rfl rfl h
  · replace h := h.2 c1
    refine z_aload_n 0 dX9_load_143 rfl rfl ?_
    refine z_getI (ki := 17) zfRX9_193 dX9_load_144 hh0.1 rfl rfl ?_
    refine z_if_eq (tgt := 157) dX9_load_147 (by decide) (fun c9 => ?_) (fun c9 => ?_)
    · replace h := h.1 c9
      refine z_aload_n 0 dX9_load_157 rfl rfl ?_
      refine z_iconst dX9_load_158 (by decide) ?_
      refine z_putI (ki := 1) zfRX9_181 dX9_load_159 hh0.1 rfl rfl ?_
      refine z_genw (fun w10 hw10 => ?_)
      replace h := h w10 hw10
      refine z_aload_n 0 dX9_load_162 rfl rfl ?_
      refine z_getI (ki := 20) zfRX9_205 dX9_load_163 hh0.1 rfl rfl ?_
      refine z_if_ne (tgt := 175) dX9_load_166 (by decide) (fun c11 => ?_) (fun c11 => ?_)
      · replace h := h.2 c11
        refine z_aload_n 0 dX9_load_175 rfl rfl ?_
        refine z_iconst dX9_load_176 (by decide) ?_
        refine z_putI (ki := 8) zfRX9_62 dX9_load_177 hh0.1 rfl rfl ?_
        refine z_genw (fun w12 hw12 => ?_)
        replace h := h w12 hw12
        refine z_aload_n 0 dX9_load_180 rfl rfl ?_
        refine z_getR (r := 167) zfRX9_30 dX9_load_181 hh0.1 rfl ?_
        refine z_iconst dX9_load_184 (by decide) ?_
        refine z_iconst dX9_load_185 (by decide) ?_
        refine z_zast dX9_load_186 hh0.2.2.2.2.2.2.1 (by decide) (by decide) ?_
        refine z_genw (fun w13 hw13 => ?_)
        replace h := h w13 hw13
        refine z_aload_n 0 dX9_load_187 rfl rfl ?_
        refine z_getR (r := 167) zfRX9_30 dX9_load_188 hh0.1 rfl ?_
        refine z_iconst dX9_load_191 (by decide) ?_
        refine z_iconst dX9_load_192 (by decide) ?_
        refine z_zast dX9_load_193 hh0.2.2.2.2.2.2.1 (by decide) (by decide) ?_
        refine z_genw (fun w14 hw14 => ?_)
        replace h := h w14 hw14
        refine z_aload_n 0 dX9_load_194 rfl rfl ?_
        refine z_getR (r := 163) zfRX9_17 dX9_load_195 hh0.1 rfl ?_
        refine z_iconst dX9_load_198 (by decide) ?_
        refine z_iald dX9_load_199 hh0.2.2.1 (by decide) ?_
        exact z_ret (v := some (z_i (w14 163 2))) dX9_load_200 ⟨rfl, Or.inl rfl⟩ rfl rfl h
      · replace h := h.1 c11
        refine z_aload_n 0 dX9_load_169 rfl rfl ?_
        refine z_iconst dX9_load_170 (by decide) ?_
        refine z_callV (As := [z_i (-1)]) (rest := []) zmX9_fails znX9_fails zsX9_fails (show vwCl[9]? = some (RX9, TX9, 29) from rfl) zlRX9_137 ⟨Nat.le_of_ble_eq_true rfl, Nat.le_of_ble_eq_true rfl⟩ dX9_load_171 hh0.1 rfl rfl (z_ai z_a0) (Nat.le_of_ble_eq_true rfl) (Nat.le_of_ble_eq_true rfl) ⟨Nat.le_refl _, Nat.le_refl _⟩ (z_CIm h ?_)
        intro y16 w15 h
        show z_Sem mX9_load (sh.length, 0) 174 [(0, z_r 161)] [z_i y16] (sh, w15) Q
        exact z_ret (v := some (z_i y16)) dX9_load_174 ⟨rfl, Or.inl rfl⟩ rfl rfl h
    · replace h := h.2 c9
      refine z_aload_n 0 dX9_load_150 rfl rfl ?_
      refine z_callV (As := []) (rest := []) zmX9_readPin znX9_readPin zsX9_readPin (show vwCl[9]? = some (RX9, TX9, 29) from rfl) zlRX9_246 ⟨Nat.le_of_ble_eq_true rfl, Nat.le_of_ble_eq_true rfl⟩ dX9_load_151 hh0.1 rfl rfl z_a0 (Nat.le_of_ble_eq_true rfl) (Nat.le_of_ble_eq_true rfl) ⟨Nat.le_refl _, Nat.le_refl _⟩ (z_CVm h ?_)
      intro w17 h
      show z_Sem mX9_load (sh.length, 0) 154 [(0, z_r 161)] [] (sh, w17) Q
      refine z_goto (tgt := 136) dX9_load_154 (by decide) ?_
      exact h
def f_X9_errorPosition (w : Nat → Int → Int)  : Int := w 161 2
set_option maxRecDepth 100000 in
theorem t_X9_errorPosition {sh : List z_C} {w : Nat → Int → Int} {Q : Option z_V → z_S → Prop}  (hh0 : z_isMod sh 161) (h : Q (some (z_i (f_X9_errorPosition w))) (sh, w)) : z_Sem mX9_errorPosition (sh.length, 0) 0 [(0, z_r 161)] [] (sh, w) Q := by
  unfold f_X9_errorPosition at h
  refine z_aload_n 0 dX9_errorPosition_0 rfl rfl ?_
  refine z_getI (ki := 2) zfRX9_13 dX9_errorPosition_1 hh0.1 rfl rfl ?_
  exact z_ret (v := some (z_i (w 161 2))) dX9_errorPosition_4 ⟨rfl, Or.inl rfl⟩ rfl rfl h
set_option maxRecDepth 100000 in
theorem t_X9_tapes {sh : List z_C} {w : Nat → Int → Int} {Q : Option z_V → z_S → Prop} {x1 : Int} (hh0 : z_isMod sh 161) (h : z_Sem mX9_tapes (sh.length, 0) 3 [(0, z_r 161), (1, z_i x1), (2, z_i 24)] [] (sh, w) Q) : z_Sem mX9_tapes (sh.length, 0) 0 [(0, z_r 161), (1, z_i x1)] [] (sh, w) Q := by
  refine z_bipush dX9_tapes_0 (by decide) (by decide) ?_
  refine z_istore_n (L' := [(2, z_i 24), (0, z_r 161), (1, z_i x1)]) dX9_tapes_2 rfl (by decide) rfl ?_
  refine z_sub (L' := [(0, z_r 161), (1, z_i x1), (2, z_i 24)]) [1, 2, 0] rfl ?_
  exact h
set_option maxRecDepth 100000 in
theorem t_X9_tapes_3 {sh : List z_C} {w : Nat → Int → Int} {Q : Option z_V → z_S → Prop} {x1 : Int} {x2 : Int} (hh0 : z_isMod sh 161) (h : ((x2 < 0 → Q none (sh, w)) ∧ (¬ x2 < 0 → ((0 : Int) ≤ (w 161 1) ∧ (w 161 1) < 900) ∧ (z_i2bv (z_i2bv (z_shr x1 x2)) = (z_i2bv (z_shr x1 x2))) ∧ ∀ w2 : Nat → Int → Int, w2 = z_W w 162 (w 161 1) (z_i2bv (z_shr x1 x2)) → (z_R ((w2 161 1) + 1)) ∧ ∀ w6 : Nat → Int → Int, w6 = z_W w2 161 1 ((w2 161 1) + 1) → (z_R (x2 + (-8))) ∧ z_Sem mX9_tapes (sh.length, 0) 3 [(0, z_r 161), (1, z_i x1), (2, z_i (x2 + (-8)))] [] (sh, w6) Q))) : z_Sem mX9_tapes (sh.length, 0) 3 [(0, z_r 161), (1, z_i x1), (2, z_i x2)] [] (sh, w) Q := by
  refine z_iload_n 2 dX9_tapes_3 rfl rfl ?_
  refine z_if_lt (tgt := 36) dX9_tapes_4 (by decide) (fun c1 => ?_) (fun c1 => ?_)
  · replace h := h.1 c1
    exact z_ret (v := none) dX9_tapes_36 ⟨rfl, rfl⟩ rfl rfl h
  · replace h := h.2 c1
    refine z_aload_n 0 dX9_tapes_7 rfl rfl ?_
    refine z_getR (r := 162) zfRX9_7 dX9_tapes_8 hh0.1 rfl ?_
    refine z_aload_n 0 dX9_tapes_11 rfl rfl ?_
    refine z_getI (ki := 1) zfRX9_181 dX9_tapes_12 hh0.1 rfl rfl ?_
    refine z_iload_n 1 dX9_tapes_15 rfl rfl ?_
    refine z_iload_n 2 dX9_tapes_16 rfl rfl ?_
    refine z_ishr dX9_tapes_17 ?_
    refine z_i2b dX9_tapes_18 ?_
    obtain ⟨q3, h⟩ := h
    obtain ⟨q4, h⟩ := h
    refine z_bast dX9_tapes_19 hh0.2.1 q3 q4 ?_
    refine z_genw (fun w2 hw2 => ?_)
    replace h := h w2 hw2
    refine z_aload_n 0 dX9_tapes_20 rfl rfl ?_
    refine z_dup dX9_tapes_21 rfl ?_
    refine z_getI (ki := 1) zfRX9_181 dX9_tapes_22 hh0.1 rfl rfl ?_
    refine z_iconst dX9_tapes_25 (by decide) ?_
    obtain ⟨q5, h⟩ := h
    refine z_iadd dX9_tapes_26 q5 ?_
    refine z_putI (ki := 1) zfRX9_181 dX9_tapes_27 hh0.1 rfl rfl ?_
    refine z_genw (fun w6 hw6 => ?_)
    replace h := h w6 hw6
    obtain ⟨q7, h⟩ := h
    refine z_iinc (L' := [(2, z_i (x2 + (-8))), (0, z_r 161), (1, z_i x1)]) 2 dX9_tapes_30 rfl (by decide) rfl q7 ?_
    refine z_goto (tgt := 3) dX9_tapes_33 (by decide) ?_
    refine z_sub (L' := [(0, z_r 161), (1, z_i x1), (2, z_i (x2 + (-8)))]) [1, 2, 0] rfl ?_
    exact h
set_option maxRecDepth 100000 in
theorem t_X9_append {sh : List z_C} {w : Nat → Int → Int} {Q : Option z_V → z_S → Prop} {x1 : Int} {x2 : Int} {x3 : Int} {x4 : Int} {x5 : Int} (hh0 : z_isMod sh 161) (h : (((w 161 1) ≤ 880 → z_CV mX9_tapes [z_r 161, z_i x1] sh w (fun w2 => z_CV mX9_tapes [z_r 161, z_i x2] sh w2 (fun w3 => z_CV mX9_tapes [z_r 161, z_i x3] sh w3 (fun w4 => z_CV mX9_tapes [z_r 161, z_i x4] sh w4 (fun w5 => z_CV mX9_tapes [z_r 161, z_i x5] sh w5 (fun w6 => Q (some (z_i (w6 161 1))) (sh, w6))))))) ∧ (¬ (w 161 1) ≤ 880 → Q (some (z_i (-1))) (sh, w)))) : z_Sem mX9_append (sh.length, 0) 0 [(0, z_r 161), (1, z_i x1), (2, z_i x2), (3, z_i x3), (4, z_i x4), (5, z_i x5)] [] (sh, w) Q := by
  refine z_aload_n 0 dX9_append_0 rfl rfl ?_
  refine z_getI (ki := 1) zfRX9_181 dX9_append_1 hh0.1 rfl rfl ?_
  refine z_sipush dX9_append_4 (by decide) (by decide) ?_
  refine z_icmp_le (tgt := 12) dX9_append_7 (by decide) (fun c1 => ?_) (fun c1 => ?_)
  · replace h := h.1 c1
    refine z_aload_n 0 dX9_append_12 rfl rfl ?_
    refine z_iload_n 1 dX9_append_13 rfl rfl ?_
    refine z_callV (As := [z_i x1]) (rest := []) zmX9_tapes znX9_tapes zsX9_tapes (show vwCl[9]? = some (RX9, TX9, 29) from rfl) zlRX9_249 ⟨Nat.le_of_ble_eq_true rfl, Nat.le_of_ble_eq_true rfl⟩ dX9_append_14 hh0.1 rfl rfl (z_ai z_a0) (Nat.le_of_ble_eq_true rfl) (Nat.le_of_ble_eq_true rfl) ⟨Nat.le_refl _, Nat.le_refl _⟩ (z_CVm h ?_)
    intro w2 h
    show z_Sem mX9_append (sh.length, 0) 17 [(0, z_r 161), (1, z_i x1), (2, z_i x2), (3, z_i x3), (4, z_i x4), (5, z_i x5)] [] (sh, w2) Q
    refine z_aload_n 0 dX9_append_17 rfl rfl ?_
    refine z_iload_n 2 dX9_append_18 rfl rfl ?_
    refine z_callV (As := [z_i x2]) (rest := []) zmX9_tapes znX9_tapes zsX9_tapes (show vwCl[9]? = some (RX9, TX9, 29) from rfl) zlRX9_249 ⟨Nat.le_of_ble_eq_true rfl, Nat.le_of_ble_eq_true rfl⟩ dX9_append_19 hh0.1 rfl rfl (z_ai z_a0) (Nat.le_of_ble_eq_true rfl) (Nat.le_of_ble_eq_true rfl) ⟨Nat.le_refl _, Nat.le_refl _⟩ (z_CVm h ?_)
    intro w3 h
    show z_Sem mX9_append (sh.length, 0) 22 [(0, z_r 161), (1, z_i x1), (2, z_i x2), (3, z_i x3), (4, z_i x4), (5, z_i x5)] [] (sh, w3) Q
    refine z_aload_n 0 dX9_append_22 rfl rfl ?_
    refine z_iload_n 3 dX9_append_23 rfl rfl ?_
    refine z_callV (As := [z_i x3]) (rest := []) zmX9_tapes znX9_tapes zsX9_tapes (show vwCl[9]? = some (RX9, TX9, 29) from rfl) zlRX9_249 ⟨Nat.le_of_ble_eq_true rfl, Nat.le_of_ble_eq_true rfl⟩ dX9_append_24 hh0.1 rfl rfl (z_ai z_a0) (Nat.le_of_ble_eq_true rfl) (Nat.le_of_ble_eq_true rfl) ⟨Nat.le_refl _, Nat.le_refl _⟩ (z_CVm h ?_)
    intro w4 h
    show z_Sem mX9_append (sh.length, 0) 27 [(0, z_r 161), (1, z_i x1), (2, z_i x2), (3, z_i x3), (4, z_i x4), (5, z_i x5)] [] (sh, w4) Q
    refine z_aload_n 0 dX9_append_27 rfl rfl ?_
    refine z_iload 4 dX9_append_28 rfl ?_
    refine z_callV (As := [z_i x4]) (rest := []) zmX9_tapes znX9_tapes zsX9_tapes (show vwCl[9]? = some (RX9, TX9, 29) from rfl) zlRX9_249 ⟨Nat.le_of_ble_eq_true rfl, Nat.le_of_ble_eq_true rfl⟩ dX9_append_30 hh0.1 rfl rfl (z_ai z_a0) (Nat.le_of_ble_eq_true rfl) (Nat.le_of_ble_eq_true rfl) ⟨Nat.le_refl _, Nat.le_refl _⟩ (z_CVm h ?_)
    intro w5 h
    show z_Sem mX9_append (sh.length, 0) 33 [(0, z_r 161), (1, z_i x1), (2, z_i x2), (3, z_i x3), (4, z_i x4), (5, z_i x5)] [] (sh, w5) Q
    refine z_aload_n 0 dX9_append_33 rfl rfl ?_
    refine z_iload 5 dX9_append_34 rfl ?_
    refine z_callV (As := [z_i x5]) (rest := []) zmX9_tapes znX9_tapes zsX9_tapes (show vwCl[9]? = some (RX9, TX9, 29) from rfl) zlRX9_249 ⟨Nat.le_of_ble_eq_true rfl, Nat.le_of_ble_eq_true rfl⟩ dX9_append_36 hh0.1 rfl rfl (z_ai z_a0) (Nat.le_of_ble_eq_true rfl) (Nat.le_of_ble_eq_true rfl) ⟨Nat.le_refl _, Nat.le_refl _⟩ (z_CVm h ?_)
    intro w6 h
    show z_Sem mX9_append (sh.length, 0) 39 [(0, z_r 161), (1, z_i x1), (2, z_i x2), (3, z_i x3), (4, z_i x4), (5, z_i x5)] [] (sh, w6) Q
    refine z_aload_n 0 dX9_append_39 rfl rfl ?_
    refine z_getI (ki := 1) zfRX9_181 dX9_append_40 hh0.1 rfl rfl ?_
    exact z_ret (v := some (z_i (w6 161 1))) dX9_append_43 ⟨rfl, Or.inl rfl⟩ rfl rfl h
  · replace h := h.2 c1
    refine z_iconst dX9_append_10 (by decide) ?_
    exact z_ret (v := some (z_i (-1))) dX9_append_11 ⟨rfl, Or.inl rfl⟩ rfl rfl h
set_option maxRecDepth 100000 in
theorem t_X9_truncate {sh : List z_C} {w : Nat → Int → Int} {Q : Option z_V → z_S → Prop} {x1 : Int} (hh0 : z_isMod sh 161) (h : (((f_X9_in w x1 0 (w 161 1)) = 0 → Q (some (z_i (-1))) (sh, w)) ∧ (¬ (f_X9_in w x1 0 (w 161 1)) = 0 → (z_R ((w 161 1) - x1)) ∧ ∀ w3 : Nat → Int → Int, w3 = z_W w 161 1 ((w 161 1) - x1) → Q (some (z_i (w3 161 1))) (sh, w3)))) : z_Sem mX9_truncate (sh.length, 0) 0 [(0, z_r 161), (1, z_i x1)] [] (sh, w) Q := by
  refine z_iload_n 1 dX9_truncate_0 rfl rfl ?_
  refine z_iconst dX9_truncate_1 (by decide) ?_
  refine z_aload_n 0 dX9_truncate_2 rfl rfl ?_
  refine z_getI (ki := 1) zfRX9_181 dX9_truncate_3 hh0.1 rfl rfl ?_
  refine z_callS (As := [z_i x1, z_i 0, z_i (w 161 1)]) (rest := []) zmX9_in ztX9_in zlRX9_65 ⟨Nat.le_of_ble_eq_true rfl, Nat.le_of_ble_eq_true rfl⟩ dX9_truncate_6 rfl rfl (z_ai (z_ai (z_ai z_a0))) (Nat.le_of_ble_eq_true rfl) (Nat.le_of_ble_eq_true rfl) ⟨Nat.le_refl _, Nat.le_refl _⟩ ?_
  refine t_X9_in  ?_
  show z_Sem mX9_truncate (sh.length, 0) 9 [(0, z_r 161), (1, z_i x1)] [z_i (f_X9_in w x1 0 (w 161 1))] (sh, w) Q
  refine z_if_ne (tgt := 14) dX9_truncate_9 (by decide) (fun c1 => ?_) (fun c1 => ?_)
  · replace h := h.2 c1
    refine z_aload_n 0 dX9_truncate_14 rfl rfl ?_
    refine z_dup dX9_truncate_15 rfl ?_
    refine z_getI (ki := 1) zfRX9_181 dX9_truncate_16 hh0.1 rfl rfl ?_
    refine z_iload_n 1 dX9_truncate_19 rfl rfl ?_
    obtain ⟨q2, h⟩ := h
    refine z_isub dX9_truncate_20 q2 ?_
    refine z_putI (ki := 1) zfRX9_181 dX9_truncate_21 hh0.1 rfl rfl ?_
    refine z_genw (fun w3 hw3 => ?_)
    replace h := h w3 hw3
    refine z_aload_n 0 dX9_truncate_24 rfl rfl ?_
    refine z_getI (ki := 1) zfRX9_181 dX9_truncate_25 hh0.1 rfl rfl ?_
    exact z_ret (v := some (z_i (w3 161 1))) dX9_truncate_28 ⟨rfl, Or.inl rfl⟩ rfl rfl h
  · replace h := h.1 c1
    refine z_iconst dX9_truncate_12 (by decide) ?_
    exact z_ret (v := some (z_i (-1))) dX9_truncate_13 ⟨rfl, Or.inl rfl⟩ rfl rfl h
set_option maxRecDepth 100000 in
theorem t_X9_taped {sh : List z_C} {w : Nat → Int → Int} {Q : Option z_V → z_S → Prop}  (hh0 : z_isMod sh 161) (h : ∀ y1 : Int, y1 = (f_X9_in w (w 161 1) 1 5) → z_Sem mX9_taped (sh.length, 0) 14 [(0, z_r 161), (1, z_i y1), (2, z_i 0), (3, z_i 0)] [] (sh, w) Q) : z_Sem mX9_taped (sh.length, 0) 0 [(0, z_r 161)] [] (sh, w) Q := by
  refine z_aload_n 0 dX9_taped_0 rfl rfl ?_
  refine z_getI (ki := 1) zfRX9_181 dX9_taped_1 hh0.1 rfl rfl ?_
  refine z_iconst dX9_taped_4 (by decide) ?_
  refine z_iconst dX9_taped_5 (by decide) ?_
  refine z_callS (As := [z_i (w 161 1), z_i 1, z_i 5]) (rest := []) zmX9_in ztX9_in zlRX9_65 ⟨Nat.le_of_ble_eq_true rfl, Nat.le_of_ble_eq_true rfl⟩ dX9_taped_6 rfl rfl (z_ai (z_ai (z_ai z_a0))) (Nat.le_of_ble_eq_true rfl) (Nat.le_of_ble_eq_true rfl) ⟨Nat.le_refl _, Nat.le_refl _⟩ ?_
  refine t_X9_in  ?_
  show z_Sem mX9_taped (sh.length, 0) 9 [(0, z_r 161)] [z_i (f_X9_in w (w 161 1) 1 5)] (sh, w) Q
  refine z_nam (fun y1 hy1 => ?_)
  replace h := h y1 hy1
  refine z_istore_n (L' := [(1, z_i y1), (0, z_r 161)]) dX9_taped_9 rfl (by decide) rfl ?_
  refine z_iconst dX9_taped_10 (by decide) ?_
  refine z_istore_n (L' := [(2, z_i 0), (1, z_i y1), (0, z_r 161)]) dX9_taped_11 rfl (by decide) rfl ?_
  refine z_iconst dX9_taped_12 (by decide) ?_
  refine z_istore_n (L' := [(3, z_i 0), (2, z_i 0), (1, z_i y1), (0, z_r 161)]) dX9_taped_13 rfl (by decide) rfl ?_
  refine z_sub (L' := [(0, z_r 161), (1, z_i y1), (2, z_i 0), (3, z_i 0)]) [3, 2, 1, 0] rfl ?_
  exact h
set_option maxRecDepth 100000 in
theorem t_X9_taped_14 {sh : List z_C} {w : Nat → Int → Int} {Q : Option z_V → z_S → Prop} {x1 : Int} {x2 : Int} {x3 : Int} (hh0 : z_isMod sh 161) (h : (((w 161 1) ≤ x3 → ((x1 = 0 → Q (some (z_i 0)) (sh, w)) ∧ (¬ x1 = 0 → z_CI mX9_isName [z_i x2] sh w (fun y4 w3 => Q (some (z_i (if y4 = 0 then 0 else x2))) (sh, w3))))) ∧ (¬ (w 161 1) ≤ x3 → ((x1 = 0 → ((x1 = 0 → Q (some (z_i 0)) (sh, w)) ∧ (¬ x1 = 0 → z_CI mX9_isName [z_i x2] sh w (fun y12 w11 => Q (some (z_i (if y12 = 0 then 0 else x2))) (sh, w11))))) ∧ (¬ x1 = 0 → ((0 : Int) ≤ x3 ∧ x3 < 900) ∧ ∀ y18 : Int, y18 = (f_X9_in w (w 162 x3) 97 122) → (z_R (32 * x2)) ∧ ((0 : Int) ≤ x3 ∧ x3 < 900) ∧ (z_R ((32 * x2) + (w 162 x3))) ∧ (z_R (((32 * x2) + (w 162 x3)) - 96)) ∧ ∀ y23 : Int, y23 = (((32 * x2) + (w 162 x3)) - 96) → (z_R (x3 + 1)) ∧ z_Sem mX9_taped (sh.length, 0) 14 [(0, z_r 161), (1, z_i y18), (2, z_i y23), (3, z_i (x3 + 1))] [] (sh, w) Q))))) : z_Sem mX9_taped (sh.length, 0) 14 [(0, z_r 161), (1, z_i x1), (2, z_i x2), (3, z_i x3)] [] (sh, w) Q := by
  refine z_iload_n 3 dX9_taped_14 rfl rfl ?_
  refine z_aload_n 0 dX9_taped_15 rfl rfl ?_
  refine z_getI (ki := 1) zfRX9_181 dX9_taped_16 hh0.1 rfl rfl ?_
  refine z_icmp_ge (tgt := 61) dX9_taped_19 (by decide) (fun c1 => ?_) (fun c1 => ?_)
  · replace h := h.1 c1
    refine z_iload_n 1 dX9_taped_61 rfl rfl ?_
    refine z_if_eq (tgt := 76) dX9_taped_62 (by decide) (fun c2 => ?_) (fun c2 => ?_)
    · replace h := h.1 c2
      refine z_iconst dX9_taped_76 (by decide) ?_
      exact z_ret (v := some (z_i 0)) dX9_taped_77 ⟨rfl, Or.inl rfl⟩ rfl rfl h
    · replace h := h.2 c2
      refine z_iload_n 2 dX9_taped_65 rfl rfl ?_
      refine z_callS (As := [z_i x2]) (rest := []) zmX9_isName ztX9_isName zlRX9_219 ⟨Nat.le_of_ble_eq_true rfl, Nat.le_of_ble_eq_true rfl⟩ dX9_taped_66 rfl rfl (z_ai z_a0) (Nat.le_of_ble_eq_true rfl) (Nat.le_of_ble_eq_true rfl) ⟨Nat.le_refl _, Nat.le_refl _⟩ (z_CIm h ?_)
      intro y4 w3 h
      show z_Sem mX9_taped (sh.length, 0) 69 [(0, z_r 161), (1, z_i x1), (2, z_i x2), (3, z_i x3)] [z_i y4] (sh, w3) Q
      suffices hJ5 : z_Sem mX9_taped (sh.length, 0) 77 [] [z_i (if y4 = 0 then 0 else x2)] (sh, w3) Q by
        refine z_if_eq (tgt := 76) dX9_taped_69 (by decide) (fun c6 => ?_) (fun c6 => ?_)
        · skip
          refine z_iconst dX9_taped_76 (by decide) ?_
          refine z_sub (L' := []) [] rfl ?_
          simp only [if_pos c6] at hJ5
          exact hJ5
        · skip
          refine z_iload_n 2 dX9_taped_72 rfl rfl ?_
          refine z_goto (tgt := 77) dX9_taped_73 (by decide) ?_
          refine z_sub (L' := []) [] rfl ?_
          simp only [if_neg c6] at hJ5
          exact hJ5
      exact z_ret (v := some (z_i (if y4 = 0 then 0 else x2))) dX9_taped_77 ⟨rfl, Or.inl rfl⟩ rfl rfl h
  · replace h := h.2 c1
    refine z_iload_n 1 dX9_taped_22 rfl rfl ?_
    refine z_if_eq (tgt := 61) dX9_taped_23 (by decide) (fun c9 => ?_) (fun c9 => ?_)
    · replace h := h.1 c9
      refine z_iload_n 1 dX9_taped_61 rfl rfl ?_
      refine z_if_eq (tgt := 76) dX9_taped_62 (by decide) (fun c10 => ?_) (fun c10 => ?_)
      · replace h := h.1 c10
        refine z_iconst dX9_taped_76 (by decide) ?_
        exact z_ret (v := some (z_i 0)) dX9_taped_77 ⟨rfl, Or.inl rfl⟩ rfl rfl h
      · replace h := h.2 c10
        refine z_iload_n 2 dX9_taped_65 rfl rfl ?_
        refine z_callS (As := [z_i x2]) (rest := []) zmX9_isName ztX9_isName zlRX9_219 ⟨Nat.le_of_ble_eq_true rfl, Nat.le_of_ble_eq_true rfl⟩ dX9_taped_66 rfl rfl (z_ai z_a0) (Nat.le_of_ble_eq_true rfl) (Nat.le_of_ble_eq_true rfl) ⟨Nat.le_refl _, Nat.le_refl _⟩ (z_CIm h ?_)
        intro y12 w11 h
        show z_Sem mX9_taped (sh.length, 0) 69 [(0, z_r 161), (1, z_i x1), (2, z_i x2), (3, z_i x3)] [z_i y12] (sh, w11) Q
        suffices hJ13 : z_Sem mX9_taped (sh.length, 0) 77 [] [z_i (if y12 = 0 then 0 else x2)] (sh, w11) Q by
          refine z_if_eq (tgt := 76) dX9_taped_69 (by decide) (fun c14 => ?_) (fun c14 => ?_)
          · skip
            refine z_iconst dX9_taped_76 (by decide) ?_
            refine z_sub (L' := []) [] rfl ?_
            simp only [if_pos c14] at hJ13
            exact hJ13
          · skip
            refine z_iload_n 2 dX9_taped_72 rfl rfl ?_
            refine z_goto (tgt := 77) dX9_taped_73 (by decide) ?_
            refine z_sub (L' := []) [] rfl ?_
            simp only [if_neg c14] at hJ13
            exact hJ13
        exact z_ret (v := some (z_i (if y12 = 0 then 0 else x2))) dX9_taped_77 ⟨rfl, Or.inl rfl⟩ rfl rfl h
    · replace h := h.2 c9
      refine z_aload_n 0 dX9_taped_26 rfl rfl ?_
      refine z_getR (r := 162) zfRX9_7 dX9_taped_27 hh0.1 rfl ?_
      refine z_iload_n 3 dX9_taped_30 rfl rfl ?_
      obtain ⟨q17, h⟩ := h
      refine z_bald dX9_taped_31 hh0.2.1 q17 ?_
      refine z_bipush dX9_taped_32 (by decide) (by decide) ?_
      refine z_bipush dX9_taped_34 (by decide) (by decide) ?_
      refine z_callS (As := [z_i (w 162 x3), z_i 97, z_i 122]) (rest := []) zmX9_in ztX9_in zlRX9_65 ⟨Nat.le_of_ble_eq_true rfl, Nat.le_of_ble_eq_true rfl⟩ dX9_taped_36 rfl rfl (z_ai (z_ai (z_ai z_a0))) (Nat.le_of_ble_eq_true rfl) (Nat.le_of_ble_eq_true rfl) ⟨Nat.le_refl _, Nat.le_refl _⟩ ?_
      refine t_X9_in  ?_
      show z_Sem mX9_taped (sh.length, 0) 39 [(0, z_r 161), (1, z_i x1), (2, z_i x2), (3, z_i x3)] [z_i (f_X9_in w (w 162 x3) 97 122)] (sh, w) Q
      refine z_nam (fun y18 hy18 => ?_)
      replace h := h y18 hy18
      refine z_istore_n (L' := [(1, z_i y18), (0, z_r 161), (2, z_i x2), (3, z_i x3)]) dX9_taped_39 rfl (by decide) rfl ?_
      refine z_bipush dX9_taped_40 (by decide) (by decide) ?_
      refine z_iload_n 2 dX9_taped_42 rfl rfl ?_
      obtain ⟨q19, h⟩ := h
      refine z_imul dX9_taped_43 q19 ?_
      refine z_aload_n 1 dX9_taped_44 rfl rfl ?_
      refine z_getR (r := 162) zfRX9_7 dX9_taped_45 hh0.1 rfl ?_
      refine z_iload_n 3 dX9_taped_48 rfl rfl ?_
      obtain ⟨q20, h⟩ := h
      refine z_bald dX9_taped_49 hh0.2.1 q20 ?_
      obtain ⟨q21, h⟩ := h
      refine z_iadd dX9_taped_50 q21 ?_
      refine z_bipush dX9_taped_51 (by decide) (by decide) ?_
      obtain ⟨q22, h⟩ := h
      refine z_isub dX9_taped_53 q22 ?_
      refine z_nam (fun y23 hy23 => ?_)
      replace h := h y23 hy23
      refine z_istore_n (L' := [(2, z_i y23), (1, z_i y18), (0, z_r 161), (3, z_i x3)]) dX9_taped_54 rfl (by decide) rfl ?_
      obtain ⟨q24, h⟩ := h
      refine z_iinc (L' := [(3, z_i (x3 + 1)), (2, z_i y23), (1, z_i y18), (0, z_r 161)]) 3 dX9_taped_55 rfl (by decide) rfl q24 ?_
      refine z_goto (tgt := 14) dX9_taped_58 (by decide) ?_
      refine z_sub (L' := [(0, z_r 161), (1, z_i y18), (2, z_i y23), (3, z_i (x3 + 1))]) [3, 2, 1, 0] rfl ?_
      exact h
set_option maxRecDepth 100000 in
theorem t_X9_open {sh : List z_C} {w : Nat → Int → Int} {Q : Option z_V → z_S → Prop}  (hh0 : z_isMod sh 161) (h : z_CI mX9_taped [z_r 161] sh w (fun y2 w1 => ((y2 = 0 → Q (some (z_i (-1))) (sh, w1)) ∧ (¬ y2 = 0 → z_CI mX9_named [z_r 161, z_i y2] sh w1 (fun y5 w4 => ((y5 < 0 → (((w4 163 1) = 10 → Q (some (z_i (-4))) (sh, w4)) ∧ (¬ (w4 163 1) = 10 → z_CV mX9_begins [z_r 161] sh w4 (fun w8 => z_CV mX9_opens [z_r 161, z_i y2] sh w8 (fun w9 => ∀ w10 : Nat → Int → Int, w10 = z_W w9 161 1 0 → (z_R ((w10 163 1) - 1)) ∧ z_CV mX9_logs [z_r 161, z_i 0, z_i ((w10 163 1) - 1), z_i (w10 163 1)] sh w10 (fun w12 => (z_R ((w12 163 1) - 1)) ∧ z_CI mX9_done [z_r 161, z_i ((w12 163 1) - 1)] sh w12 (fun y15 w14 => Q (some (z_i y15)) (sh, w14)))))))) ∧ (¬ y5 < 0 → Q (some (z_i (-1))) (sh, w4)))))))) : z_Sem mX9_open (sh.length, 0) 0 [(0, z_r 161)] [] (sh, w) Q := by
  refine z_aload_n 0 dX9_open_0 rfl rfl ?_
  refine z_callV (As := []) (rest := []) zmX9_taped znX9_taped zsX9_taped (show vwCl[9]? = some (RX9, TX9, 29) from rfl) zlRX9_252 ⟨Nat.le_of_ble_eq_true rfl, Nat.le_of_ble_eq_true rfl⟩ dX9_open_1 hh0.1 rfl rfl z_a0 (Nat.le_of_ble_eq_true rfl) (Nat.le_of_ble_eq_true rfl) ⟨Nat.le_refl _, Nat.le_refl _⟩ (z_CIm h ?_)
  intro y2 w1 h
  show z_Sem mX9_open (sh.length, 0) 4 [(0, z_r 161)] [z_i y2] (sh, w1) Q
  refine z_istore_n (L' := [(1, z_i y2), (0, z_r 161)]) dX9_open_4 rfl (by decide) rfl ?_
  refine z_iload_n 0 dX9_open_5 rfl rfl ?_
  refine z_if_eq (tgt := 17) dX9_open_6 (by decide) (fun c3 => ?_) (fun c3 => ?_)
  · replace h := h.1 c3
    refine z_iconst dX9_open_17 (by decide) ?_
    exact z_ret (v := some (z_i (-1))) dX9_open_18 ⟨rfl, Or.inl rfl⟩ rfl rfl h
  · replace h := h.2 c3
    refine z_aload_n 1 dX9_open_9 rfl rfl ?_
    refine z_iload_n 0 dX9_open_10 rfl rfl ?_
    refine z_callV (As := [z_i y2]) (rest := []) zmX9_named znX9_named zsX9_named (show vwCl[9]? = some (RX9, TX9, 29) from rfl) zlRX9_222 ⟨Nat.le_of_ble_eq_true rfl, Nat.le_of_ble_eq_true rfl⟩ dX9_open_11 hh0.1 rfl rfl (z_ai z_a0) (Nat.le_of_ble_eq_true rfl) (Nat.le_of_ble_eq_true rfl) ⟨Nat.le_refl _, Nat.le_refl _⟩ (z_CIm h ?_)
    intro y5 w4 h
    show z_Sem mX9_open (sh.length, 0) 14 [(1, z_i y2), (0, z_r 161)] [z_i y5] (sh, w4) Q
    refine z_if_lt (tgt := 19) dX9_open_14 (by decide) (fun c6 => ?_) (fun c6 => ?_)
    · replace h := h.1 c6
      refine z_aload_n 1 dX9_open_19 rfl rfl ?_
      refine z_getR (r := 163) zfRX9_17 dX9_open_20 hh0.1 rfl ?_
      refine z_iconst dX9_open_23 (by decide) ?_
      refine z_iald dX9_open_24 hh0.2.2.1 (by decide) ?_
      refine z_bipush dX9_open_25 (by decide) (by decide) ?_
      refine z_icmp_ne (tgt := 33) dX9_open_27 (by decide) (fun c7 => ?_) (fun c7 => ?_)
      · replace h := h.2 c7
        refine z_aload_n 1 dX9_open_33 rfl rfl ?_
        refine z_callV (As := []) (rest := []) zmX9_begins znX9_begins zsX9_begins (show vwCl[9]? = some (RX9, TX9, 29) from rfl) zlRX9_69 ⟨Nat.le_of_ble_eq_true rfl, Nat.le_of_ble_eq_true rfl⟩ dX9_open_34 hh0.1 rfl rfl z_a0 (Nat.le_of_ble_eq_true rfl) (Nat.le_of_ble_eq_true rfl) ⟨Nat.le_refl _, Nat.le_refl _⟩ (z_CVm h ?_)
        intro w8 h
        show z_Sem mX9_open (sh.length, 0) 37 [(1, z_i y2), (0, z_r 161)] [] (sh, w8) Q
        refine z_aload_n 1 dX9_open_37 rfl rfl ?_
        refine z_iload_n 0 dX9_open_38 rfl rfl ?_
        refine z_callV (As := [z_i y2]) (rest := []) zmX9_opens znX9_opens zsX9_opens (show vwCl[9]? = some (RX9, TX9, 29) from rfl) zlRX9_225 ⟨Nat.le_of_ble_eq_true rfl, Nat.le_of_ble_eq_true rfl⟩ dX9_open_39 hh0.1 rfl rfl (z_ai z_a0) (Nat.le_of_ble_eq_true rfl) (Nat.le_of_ble_eq_true rfl) ⟨Nat.le_refl _, Nat.le_refl _⟩ (z_CVm h ?_)
        intro w9 h
        show z_Sem mX9_open (sh.length, 0) 42 [(1, z_i y2), (0, z_r 161)] [] (sh, w9) Q
        refine z_aload_n 1 dX9_open_42 rfl rfl ?_
        refine z_iconst dX9_open_43 (by decide) ?_
        refine z_putI (ki := 1) zfRX9_181 dX9_open_44 hh0.1 rfl rfl ?_
        refine z_genw (fun w10 hw10 => ?_)
        replace h := h w10 hw10
        refine z_aload_n 1 dX9_open_47 rfl rfl ?_
        refine z_iconst dX9_open_48 (by decide) ?_
        refine z_aload_n 1 dX9_open_49 rfl rfl ?_
        refine z_getR (r := 163) zfRX9_17 dX9_open_50 hh0.1 rfl ?_
        refine z_iconst dX9_open_53 (by decide) ?_
        refine z_iald dX9_open_54 hh0.2.2.1 (by decide) ?_
        refine z_iconst dX9_open_55 (by decide) ?_
        obtain ⟨q11, h⟩ := h
        refine z_isub dX9_open_56 q11 ?_
        refine z_aload_n 1 dX9_open_57 rfl rfl ?_
        refine z_getR (r := 163) zfRX9_17 dX9_open_58 hh0.1 rfl ?_
        refine z_iconst dX9_open_61 (by decide) ?_
        refine z_iald dX9_open_62 hh0.2.2.1 (by decide) ?_
        refine z_callV (As := [z_i 0, z_i ((w10 163 1) - 1), z_i (w10 163 1)]) (rest := []) zmX9_logs znX9_logs zsX9_logs (show vwCl[9]? = some (RX9, TX9, 29) from rfl) zlRX9_140 ⟨Nat.le_of_ble_eq_true rfl, Nat.le_of_ble_eq_true rfl⟩ dX9_open_63 hh0.1 rfl rfl (z_ai (z_ai (z_ai z_a0))) (Nat.le_of_ble_eq_true rfl) (Nat.le_of_ble_eq_true rfl) ⟨Nat.le_refl _, Nat.le_refl _⟩ (z_CVm h ?_)
        intro w12 h
        show z_Sem mX9_open (sh.length, 0) 66 [(1, z_i y2), (0, z_r 161)] [] (sh, w12) Q
        refine z_aload_n 1 dX9_open_66 rfl rfl ?_
        refine z_aload_n 1 dX9_open_67 rfl rfl ?_
        refine z_getR (r := 163) zfRX9_17 dX9_open_68 hh0.1 rfl ?_
        refine z_iconst dX9_open_71 (by decide) ?_
        refine z_iald dX9_open_72 hh0.2.2.1 (by decide) ?_
        refine z_iconst dX9_open_73 (by decide) ?_
        obtain ⟨q13, h⟩ := h
        refine z_isub dX9_open_74 q13 ?_
        refine z_callV (As := [z_i ((w12 163 1) - 1)]) (rest := []) zmX9_done znX9_done zsX9_done (show vwCl[9]? = some (RX9, TX9, 29) from rfl) zlRX9_72 ⟨Nat.le_of_ble_eq_true rfl, Nat.le_of_ble_eq_true rfl⟩ dX9_open_75 hh0.1 rfl rfl (z_ai z_a0) (Nat.le_of_ble_eq_true rfl) (Nat.le_of_ble_eq_true rfl) ⟨Nat.le_refl _, Nat.le_refl _⟩ (z_CIm h ?_)
        intro y15 w14 h
        show z_Sem mX9_open (sh.length, 0) 78 [(1, z_i y2), (0, z_r 161)] [z_i y15] (sh, w14) Q
        exact z_ret (v := some (z_i y15)) dX9_open_78 ⟨rfl, Or.inl rfl⟩ rfl rfl h
      · replace h := h.1 c7
        refine z_bipush dX9_open_30 (by decide) (by decide) ?_
        exact z_ret (v := some (z_i (-4))) dX9_open_32 ⟨rfl, Or.inl rfl⟩ rfl rfl h
    · replace h := h.2 c6
      refine z_iconst dX9_open_17 (by decide) ?_
      exact z_ret (v := some (z_i (-1))) dX9_open_18 ⟨rfl, Or.inl rfl⟩ rfl rfl h
set_option maxRecDepth 100000 in
theorem t_X9_rename {sh : List z_C} {w : Nat → Int → Int} {Q : Option z_V → z_S → Prop} {x1 : Int} (hh0 : z_isMod sh 161) (h : z_CI mX9_taped [z_r 161] sh w (fun y2 w1 => (s_X9_isEvent w1 x1) ∧ (((f_X9_isEvent w1 x1) = 0 → Q (some (z_i (-1))) (sh, w1)) ∧ (¬ (f_X9_isEvent w1 x1) = 0 → ((y2 = 0 → Q (some (z_i (-1))) (sh, w1)) ∧ (¬ y2 = 0 → z_CI mX9_named [z_r 161, z_i y2] sh w1 (fun y7 w6 => ((y7 < 0 → ((x1 = 0 → Q (some (z_i (-3))) (sh, w6)) ∧ (¬ x1 = 0 → z_CV mX9_begins [z_r 161] sh w6 (fun w10 => ∀ y11 : Int, y11 = (w10 161 1) → (z_R (3 + x1)) ∧ ((0 : Int) ≤ (3 + x1) ∧ (3 + x1) < 264) ∧ ∀ w13 : Nat → Int → Int, w13 = z_W w10 163 (3 + x1) y2 → ∀ w15 : Nat → Int → Int, w15 = z_W w13 161 1 0 → z_CV mX9_logs [z_r 161, z_i 9, z_i x1, z_i y11] sh w15 (fun w16 => z_CI mX9_done [z_r 161, z_i y11] sh w16 (fun y18 w17 => Q (some (z_i y18)) (sh, w17))))))) ∧ (¬ y7 < 0 → Q (some (z_i (-1))) (sh, w6)))))))))) : z_Sem mX9_rename (sh.length, 0) 0 [(0, z_r 161), (1, z_i x1)] [] (sh, w) Q := by
  refine z_aload_n 0 dX9_rename_0 rfl rfl ?_
  refine z_callV (As := []) (rest := []) zmX9_taped znX9_taped zsX9_taped (show vwCl[9]? = some (RX9, TX9, 29) from rfl) zlRX9_252 ⟨Nat.le_of_ble_eq_true rfl, Nat.le_of_ble_eq_true rfl⟩ dX9_rename_1 hh0.1 rfl rfl z_a0 (Nat.le_of_ble_eq_true rfl) (Nat.le_of_ble_eq_true rfl) ⟨Nat.le_refl _, Nat.le_refl _⟩ (z_CIm h ?_)
  intro y2 w1 h
  show z_Sem mX9_rename (sh.length, 0) 4 [(0, z_r 161), (1, z_i x1)] [z_i y2] (sh, w1) Q
  refine z_istore_n (L' := [(2, z_i y2), (0, z_r 161), (1, z_i x1)]) dX9_rename_4 rfl (by decide) rfl ?_
  refine z_aload_n 1 dX9_rename_5 rfl rfl ?_
  refine z_iload_n 2 dX9_rename_6 rfl rfl ?_
  obtain ⟨q3, h⟩ := h
  refine z_callV (As := [z_i x1]) (rest := []) zmX9_isEvent znX9_isEvent zsX9_isEvent (show vwCl[9]? = some (RX9, TX9, 29) from rfl) zlRX9_80 ⟨Nat.le_of_ble_eq_true rfl, Nat.le_of_ble_eq_true rfl⟩ dX9_rename_7 hh0.1 rfl rfl (z_ai z_a0) (Nat.le_of_ble_eq_true rfl) (Nat.le_of_ble_eq_true rfl) ⟨Nat.le_refl _, Nat.le_refl _⟩ ?_
  refine t_X9_isEvent hh0 q3 ?_
  show z_Sem mX9_rename (sh.length, 0) 10 [(2, z_i y2), (0, z_r 161), (1, z_i x1)] [z_i (f_X9_isEvent w1 x1)] (sh, w1) Q
  refine z_if_eq (tgt := 25) dX9_rename_10 (by decide) (fun c4 => ?_) (fun c4 => ?_)
  · replace h := h.1 c4
    refine z_iconst dX9_rename_25 (by decide) ?_
    exact z_ret (v := some (z_i (-1))) dX9_rename_26 ⟨rfl, Or.inl rfl⟩ rfl rfl h
  · replace h := h.2 c4
    refine z_iload_n 0 dX9_rename_13 rfl rfl ?_
    refine z_if_eq (tgt := 25) dX9_rename_14 (by decide) (fun c5 => ?_) (fun c5 => ?_)
    · replace h := h.1 c5
      refine z_iconst dX9_rename_25 (by decide) ?_
      exact z_ret (v := some (z_i (-1))) dX9_rename_26 ⟨rfl, Or.inl rfl⟩ rfl rfl h
    · replace h := h.2 c5
      refine z_aload_n 1 dX9_rename_17 rfl rfl ?_
      refine z_iload_n 0 dX9_rename_18 rfl rfl ?_
      refine z_callV (As := [z_i y2]) (rest := []) zmX9_named znX9_named zsX9_named (show vwCl[9]? = some (RX9, TX9, 29) from rfl) zlRX9_222 ⟨Nat.le_of_ble_eq_true rfl, Nat.le_of_ble_eq_true rfl⟩ dX9_rename_19 hh0.1 rfl rfl (z_ai z_a0) (Nat.le_of_ble_eq_true rfl) (Nat.le_of_ble_eq_true rfl) ⟨Nat.le_refl _, Nat.le_refl _⟩ (z_CIm h ?_)
      intro y7 w6 h
      show z_Sem mX9_rename (sh.length, 0) 22 [(2, z_i y2), (0, z_r 161), (1, z_i x1)] [z_i y7] (sh, w6) Q
      refine z_if_lt (tgt := 27) dX9_rename_22 (by decide) (fun c8 => ?_) (fun c8 => ?_)
      · replace h := h.1 c8
        refine z_iload_n 2 dX9_rename_27 rfl rfl ?_
        refine z_if_ne (tgt := 34) dX9_rename_28 (by decide) (fun c9 => ?_) (fun c9 => ?_)
        · replace h := h.2 c9
          refine z_aload_n 1 dX9_rename_34 rfl rfl ?_
          refine z_callV (As := []) (rest := []) zmX9_begins znX9_begins zsX9_begins (show vwCl[9]? = some (RX9, TX9, 29) from rfl) zlRX9_69 ⟨Nat.le_of_ble_eq_true rfl, Nat.le_of_ble_eq_true rfl⟩ dX9_rename_35 hh0.1 rfl rfl z_a0 (Nat.le_of_ble_eq_true rfl) (Nat.le_of_ble_eq_true rfl) ⟨Nat.le_refl _, Nat.le_refl _⟩ (z_CVm h ?_)
          intro w10 h
          show z_Sem mX9_rename (sh.length, 0) 38 [(2, z_i y2), (0, z_r 161), (1, z_i x1)] [] (sh, w10) Q
          refine z_aload_n 1 dX9_rename_38 rfl rfl ?_
          refine z_getI (ki := 1) zfRX9_181 dX9_rename_39 hh0.1 rfl rfl ?_
          refine z_nam (fun y11 hy11 => ?_)
          replace h := h y11 hy11
          refine z_istore_n (L' := [(3, z_i y11), (2, z_i y2), (0, z_r 161), (1, z_i x1)]) dX9_rename_42 rfl (by decide) rfl ?_
          refine z_aload_n 2 dX9_rename_43 rfl rfl ?_
          refine z_getR (r := 163) zfRX9_17 dX9_rename_44 hh0.1 rfl ?_
          refine z_iconst dX9_rename_47 (by decide) ?_
          refine z_iload_n 3 dX9_rename_48 rfl rfl ?_
          obtain ⟨q12, h⟩ := h
          refine z_iadd dX9_rename_49 q12 ?_
          refine z_iload_n 1 dX9_rename_50 rfl rfl ?_
          obtain ⟨q14, h⟩ := h
          refine z_iast dX9_rename_51 hh0.2.2.1 q14 ?_
          refine z_genw (fun w13 hw13 => ?_)
          replace h := h w13 hw13
          refine z_aload_n 2 dX9_rename_52 rfl rfl ?_
          refine z_iconst dX9_rename_53 (by decide) ?_
          refine z_putI (ki := 1) zfRX9_181 dX9_rename_54 hh0.1 rfl rfl ?_
          refine z_genw (fun w15 hw15 => ?_)
          replace h := h w15 hw15
          refine z_aload_n 2 dX9_rename_57 rfl rfl ?_
          refine z_bipush dX9_rename_58 (by decide) (by decide) ?_
          refine z_iload_n 3 dX9_rename_60 rfl rfl ?_
          refine z_iload_n 0 dX9_rename_61 rfl rfl ?_
          refine z_callV (As := [z_i 9, z_i x1, z_i y11]) (rest := []) zmX9_logs znX9_logs zsX9_logs (show vwCl[9]? = some (RX9, TX9, 29) from rfl) zlRX9_140 ⟨Nat.le_of_ble_eq_true rfl, Nat.le_of_ble_eq_true rfl⟩ dX9_rename_62 hh0.1 rfl rfl (z_ai (z_ai (z_ai z_a0))) (Nat.le_of_ble_eq_true rfl) (Nat.le_of_ble_eq_true rfl) ⟨Nat.le_refl _, Nat.le_refl _⟩ (z_CVm h ?_)
          intro w16 h
          show z_Sem mX9_rename (sh.length, 0) 65 [(3, z_i y11), (2, z_i y2), (0, z_r 161), (1, z_i x1)] [] (sh, w16) Q
          refine z_aload_n 2 dX9_rename_65 rfl rfl ?_
          refine z_iload_n 0 dX9_rename_66 rfl rfl ?_
          refine z_callV (As := [z_i y11]) (rest := []) zmX9_done znX9_done zsX9_done (show vwCl[9]? = some (RX9, TX9, 29) from rfl) zlRX9_72 ⟨Nat.le_of_ble_eq_true rfl, Nat.le_of_ble_eq_true rfl⟩ dX9_rename_67 hh0.1 rfl rfl (z_ai z_a0) (Nat.le_of_ble_eq_true rfl) (Nat.le_of_ble_eq_true rfl) ⟨Nat.le_refl _, Nat.le_refl _⟩ (z_CIm h ?_)
          intro y18 w17 h
          show z_Sem mX9_rename (sh.length, 0) 70 [(3, z_i y11), (2, z_i y2), (0, z_r 161), (1, z_i x1)] [z_i y18] (sh, w17) Q
          exact z_ret (v := some (z_i y18)) dX9_rename_70 ⟨rfl, Or.inl rfl⟩ rfl rfl h
        · replace h := h.1 c9
          refine z_bipush dX9_rename_31 (by decide) (by decide) ?_
          exact z_ret (v := some (z_i (-3))) dX9_rename_33 ⟨rfl, Or.inl rfl⟩ rfl rfl h
      · replace h := h.2 c8
        refine z_iconst dX9_rename_25 (by decide) ?_
        exact z_ret (v := some (z_i (-1))) dX9_rename_26 ⟨rfl, Or.inl rfl⟩ rfl rfl h
set_option maxRecDepth 100000 in
theorem t_X9_onGaps {sh : List z_C} {w : Nat → Int → Int} {Q : Option z_V → z_S → Prop}  (hh0 : z_isMod sh 161) (h : z_Sem mX9_onGaps (sh.length, 0) 4 [(0, z_r 161), (1, z_i 0), (2, z_i 0)] [] (sh, w) Q) : z_Sem mX9_onGaps (sh.length, 0) 0 [(0, z_r 161)] [] (sh, w) Q := by
  refine z_iconst dX9_onGaps_0 (by decide) ?_
  refine z_istore_n (L' := [(1, z_i 0), (0, z_r 161)]) dX9_onGaps_1 rfl (by decide) rfl ?_
  refine z_iconst dX9_onGaps_2 (by decide) ?_
  refine z_istore_n (L' := [(2, z_i 0), (1, z_i 0), (0, z_r 161)]) dX9_onGaps_3 rfl (by decide) rfl ?_
  refine z_sub (L' := [(0, z_r 161), (1, z_i 0), (2, z_i 0)]) [2, 1, 0] rfl ?_
  exact h
set_option maxRecDepth 100000 in
theorem t_X9_onGaps_4 {sh : List z_C} {w : Nat → Int → Int} {Q : Option z_V → z_S → Prop} {x1 : Int} {x2 : Int} (hh0 : z_isMod sh 161) (h : (((w 163 2) ≤ x2 → Q (some (z_i x1)) (sh, w)) ∧ (¬ (w 163 2) ≤ x2 → (s_X9_isOn w x2) ∧ (z_R (x1 + (if (f_X9_isOn w x2) = 0 then 0 else 1))) ∧ ∀ y8 : Int, y8 = (x1 + (if (f_X9_isOn w x2) = 0 then 0 else 1)) → (z_R (x2 + 1)) ∧ z_Sem mX9_onGaps (sh.length, 0) 4 [(0, z_r 161), (1, z_i y8), (2, z_i (x2 + 1))] [] (sh, w) Q))) : z_Sem mX9_onGaps (sh.length, 0) 4 [(0, z_r 161), (1, z_i x1), (2, z_i x2)] [] (sh, w) Q := by
  refine z_iload_n 2 dX9_onGaps_4 rfl rfl ?_
  refine z_aload_n 0 dX9_onGaps_5 rfl rfl ?_
  refine z_getR (r := 163) zfRX9_17 dX9_onGaps_6 hh0.1 rfl ?_
  refine z_iconst dX9_onGaps_9 (by decide) ?_
  refine z_iald dX9_onGaps_10 hh0.2.2.1 (by decide) ?_
  refine z_icmp_ge (tgt := 36) dX9_onGaps_11 (by decide) (fun c1 => ?_) (fun c1 => ?_)
  · replace h := h.1 c1
    refine z_iload_n 1 dX9_onGaps_36 rfl rfl ?_
    exact z_ret (v := some (z_i x1)) dX9_onGaps_37 ⟨rfl, Or.inl rfl⟩ rfl rfl h
  · replace h := h.2 c1
    refine z_iload_n 1 dX9_onGaps_14 rfl rfl ?_
    refine z_aload_n 0 dX9_onGaps_15 rfl rfl ?_
    refine z_iload_n 2 dX9_onGaps_16 rfl rfl ?_
    obtain ⟨q2, h⟩ := h
    refine z_callV (As := [z_i x2]) (rest := [z_i x1]) zmX9_isOn znX9_isOn zsX9_isOn (show vwCl[9]? = some (RX9, TX9, 29) from rfl) zlRX9_87 ⟨Nat.le_of_ble_eq_true rfl, Nat.le_of_ble_eq_true rfl⟩ dX9_onGaps_17 hh0.1 rfl rfl (z_ai z_a0) (Nat.le_of_ble_eq_true rfl) (Nat.le_of_ble_eq_true rfl) ⟨Nat.le_refl _, Nat.le_refl _⟩ ?_
    refine t_X9_isOn hh0 q2 ?_
    show z_Sem mX9_onGaps (sh.length, 0) 20 [(0, z_r 161), (1, z_i x1), (2, z_i x2)] [z_i (f_X9_isOn w x2), z_i x1] (sh, w) Q
    suffices hJ3 : z_Sem mX9_onGaps (sh.length, 0) 28 [(0, z_r 161), (2, z_i x2)] [z_i (if (f_X9_isOn w x2) = 0 then 0 else 1), z_i x1] (sh, w) Q by
      refine z_if_eq (tgt := 27) dX9_onGaps_20 (by decide) (fun c4 => ?_) (fun c4 => ?_)
      · skip
        refine z_iconst dX9_onGaps_27 (by decide) ?_
        refine z_sub (L' := [(0, z_r 161), (2, z_i x2)]) [0, 2] rfl ?_
        simp only [if_pos c4] at hJ3
        exact hJ3
      · skip
        refine z_iconst dX9_onGaps_23 (by decide) ?_
        refine z_goto (tgt := 28) dX9_onGaps_24 (by decide) ?_
        refine z_sub (L' := [(0, z_r 161), (2, z_i x2)]) [0, 2] rfl ?_
        simp only [if_neg c4] at hJ3
        exact hJ3
    obtain ⟨q7, h⟩ := h
    refine z_iadd dX9_onGaps_28 q7 ?_
    refine z_nam (fun y8 hy8 => ?_)
    replace h := h y8 hy8
    refine z_istore_n (L' := [(1, z_i y8), (0, z_r 161), (2, z_i x2)]) dX9_onGaps_29 rfl (by decide) rfl ?_
    obtain ⟨q9, h⟩ := h
    refine z_iinc (L' := [(2, z_i (x2 + 1)), (1, z_i y8), (0, z_r 161)]) 2 dX9_onGaps_30 rfl (by decide) rfl q9 ?_
    refine z_goto (tgt := 4) dX9_onGaps_33 (by decide) ?_
    refine z_sub (L' := [(0, z_r 161), (1, z_i y8), (2, z_i (x2 + 1))]) [2, 1, 0] rfl ?_
    exact h
set_option maxRecDepth 100000 in
theorem t_X9_tightGaps {sh : List z_C} {w : Nat → Int → Int} {Q : Option z_V → z_S → Prop}  (hh0 : z_isMod sh 161) (h : z_CI mX9_lays [z_r 161] sh w (fun y2 w1 => z_Sem mX9_tightGaps (sh.length, 0) 9 [(0, z_r 161), (2, z_i 0), (3, z_i 0)] [] (sh, w1) Q)) : z_Sem mX9_tightGaps (sh.length, 0) 0 [(0, z_r 161)] [] (sh, w) Q := by
  refine z_aload_n 0 dX9_tightGaps_0 rfl rfl ?_
  refine z_callV (As := []) (rest := []) zmX9_lays znX9_lays zsX9_lays (show vwCl[9]? = some (RX9, TX9, 29) from rfl) zlRX9_126 ⟨Nat.le_of_ble_eq_true rfl, Nat.le_of_ble_eq_true rfl⟩ dX9_tightGaps_1 hh0.1 rfl rfl z_a0 (Nat.le_of_ble_eq_true rfl) (Nat.le_of_ble_eq_true rfl) ⟨Nat.le_refl _, Nat.le_refl _⟩ (z_CIm h ?_)
  intro y2 w1 h
  show z_Sem mX9_tightGaps (sh.length, 0) 4 [(0, z_r 161)] [z_i y2] (sh, w1) Q
  refine z_istore_n (L' := [(1, z_i y2), (0, z_r 161)]) dX9_tightGaps_4 rfl (by decide) rfl ?_
  refine z_iconst dX9_tightGaps_5 (by decide) ?_
  refine z_istore_n (L' := [(2, z_i 0), (1, z_i y2), (0, z_r 161)]) dX9_tightGaps_6 rfl (by decide) rfl ?_
  refine z_iconst dX9_tightGaps_7 (by decide) ?_
  refine z_istore_n (L' := [(3, z_i 0), (2, z_i 0), (1, z_i y2), (0, z_r 161)]) dX9_tightGaps_8 rfl (by decide) rfl ?_
  refine z_sub (L' := [(0, z_r 161), (2, z_i 0), (3, z_i 0)]) [3, 1, 0] rfl ?_
  exact h
set_option maxRecDepth 100000 in
theorem t_X9_tightGaps_9 {sh : List z_C} {w : Nat → Int → Int} {Q : Option z_V → z_S → Prop} {x2 : Int} {x3 : Int} (hh0 : z_isMod sh 161) (h : (((w 163 2) ≤ x3 → Q (some (z_i x2)) (sh, w)) ∧ (¬ (w 163 2) ≤ x3 → (s_X9_isTight w x3) ∧ (z_R (x2 + (if (f_X9_isTight w x3) = 0 then 0 else 1))) ∧ ∀ y8 : Int, y8 = (x2 + (if (f_X9_isTight w x3) = 0 then 0 else 1)) → (z_R (x3 + 1)) ∧ z_Sem mX9_tightGaps (sh.length, 0) 9 [(0, z_r 161), (2, z_i y8), (3, z_i (x3 + 1))] [] (sh, w) Q))) : z_Sem mX9_tightGaps (sh.length, 0) 9 [(0, z_r 161), (2, z_i x2), (3, z_i x3)] [] (sh, w) Q := by
  refine z_iload_n 2 dX9_tightGaps_9 rfl rfl ?_
  refine z_aload_n 0 dX9_tightGaps_10 rfl rfl ?_
  refine z_getR (r := 163) zfRX9_17 dX9_tightGaps_11 hh0.1 rfl ?_
  refine z_iconst dX9_tightGaps_14 (by decide) ?_
  refine z_iald dX9_tightGaps_15 hh0.2.2.1 (by decide) ?_
  refine z_icmp_ge (tgt := 41) dX9_tightGaps_16 (by decide) (fun c1 => ?_) (fun c1 => ?_)
  · replace h := h.1 c1
    refine z_iload_n 1 dX9_tightGaps_41 rfl rfl ?_
    exact z_ret (v := some (z_i x2)) dX9_tightGaps_42 ⟨rfl, Or.inl rfl⟩ rfl rfl h
  · replace h := h.2 c1
    refine z_iload_n 1 dX9_tightGaps_19 rfl rfl ?_
    refine z_aload_n 0 dX9_tightGaps_20 rfl rfl ?_
    refine z_iload_n 2 dX9_tightGaps_21 rfl rfl ?_
    obtain ⟨q2, h⟩ := h
    refine z_callV (As := [z_i x3]) (rest := [z_i x2]) zmX9_isTight znX9_isTight zsX9_isTight (show vwCl[9]? = some (RX9, TX9, 29) from rfl) zlRX9_130 ⟨Nat.le_of_ble_eq_true rfl, Nat.le_of_ble_eq_true rfl⟩ dX9_tightGaps_22 hh0.1 rfl rfl (z_ai z_a0) (Nat.le_of_ble_eq_true rfl) (Nat.le_of_ble_eq_true rfl) ⟨Nat.le_refl _, Nat.le_refl _⟩ ?_
    refine t_X9_isTight hh0 q2 ?_
    show z_Sem mX9_tightGaps (sh.length, 0) 25 [(0, z_r 161), (2, z_i x2), (3, z_i x3)] [z_i (f_X9_isTight w x3), z_i x2] (sh, w) Q
    suffices hJ3 : z_Sem mX9_tightGaps (sh.length, 0) 33 [(0, z_r 161), (3, z_i x3)] [z_i (if (f_X9_isTight w x3) = 0 then 0 else 1), z_i x2] (sh, w) Q by
      refine z_if_eq (tgt := 32) dX9_tightGaps_25 (by decide) (fun c4 => ?_) (fun c4 => ?_)
      · skip
        refine z_iconst dX9_tightGaps_32 (by decide) ?_
        refine z_sub (L' := [(0, z_r 161), (3, z_i x3)]) [0, 2] rfl ?_
        simp only [if_pos c4] at hJ3
        exact hJ3
      · skip
        refine z_iconst dX9_tightGaps_28 (by decide) ?_
        refine z_goto (tgt := 33) dX9_tightGaps_29 (by decide) ?_
        refine z_sub (L' := [(0, z_r 161), (3, z_i x3)]) [0, 2] rfl ?_
        simp only [if_neg c4] at hJ3
        exact hJ3
    obtain ⟨q7, h⟩ := h
    refine z_iadd dX9_tightGaps_33 q7 ?_
    refine z_nam (fun y8 hy8 => ?_)
    replace h := h y8 hy8
    refine z_istore_n (L' := [(2, z_i y8), (0, z_r 161), (3, z_i x3)]) dX9_tightGaps_34 rfl (by decide) rfl ?_
    obtain ⟨q9, h⟩ := h
    refine z_iinc (L' := [(3, z_i (x3 + 1)), (2, z_i y8), (0, z_r 161)]) 2 dX9_tightGaps_35 rfl (by decide) rfl q9 ?_
    refine z_goto (tgt := 9) dX9_tightGaps_38 (by decide) ?_
    refine z_sub (L' := [(0, z_r 161), (2, z_i y8), (3, z_i (x3 + 1))]) [2, 1, 0] rfl ?_
    exact h
