/-! THE TWO OBJECTS. -/
def z_tgs : List z_C := .inl (8, [some (some 1), some (some 12), some (some 18), some (some 24), some (some 114), some (some 139), some (some 140), some (some 159), none]) :: ((((((([] ++ z_pls 1) ++ z_nts 12) ++ z_nts 18) ++ z_hss 24) ++ z_sls 114) ++ z_rds 139) ++ z_txs 159)
theorem z_tgs_len : z_tgs.length = 161 := by decide +kernel
theorem z_tgs_is : z_isTG z_tgs 0 := by
  unfold z_isTG z_isHis z_isSlo z_isRea z_isPla z_isNet z_isTap z_isTex z_isLog
  repeat' apply And.intro
  all_goals first | decide +kernel | (intro k hk; rcases (show k = 0 ∨ k = 1 ∨ k = 2 ∨ k = 3 ∨ k = 4 ∨ k = 5 ∨ k = 6 ∨ k = 7 by omega) with rfl | rfl | rfl | rfl | rfl | rfl | rfl | rfl <;> first | (exact absurd hk (by decide)) | ((repeat' apply And.intro) <;> decide +kernel))
theorem z_hr_nil {w : z_Mm} (h2 : w 24 2 = 0) (h1 : w 24 1 = 0) : z_hr w [] := ⟨by decide, by rw [h2]; rfl, by rw [h1]; decide, fun k A h => by cases h⟩
theorem z_zf_in {w : z_Mm} {lo hi b : Nat} {j : Int} (h1 : lo ≤ b) (h2 : b < hi) : z_zf w lo hi b j = 0 := by
  unfold z_zf
  rw [if_pos ⟨h1, h2⟩]
theorem z_zf_out {w : z_Mm} {lo hi b : Nat} (h : b < lo ∨ hi ≤ b) : z_zf w lo hi b = w b := by
  unfold z_zf
  rw [if_neg (by omega)]
/-- what the class's constructor leaves behind -/
theorem z_newTG {w : z_Mm} {Q : Option z_V → z_S → Prop} (h : ∀ w' : z_Mm, z_cs w' (z_ini 100) [] → z_tc w' (0, fun _ => 0) → w' 0 8 = -2 → z_slc w' (fun _ => none) → (∀ g : Int, 0 ≤ g → g < 24 → 0 ≤ w' 150 g ∧ w' 150 g ≤ 1) → (∀ a : Nat, 161 ≤ a → w' a = w a) → Q none (z_tgs, w')) : z_Sem mX8_init (1, 0) 0 [(0, z_r 0)] [] ([.inl (8, [some none, some none, some none, some none, some none, some none, some none, some none, none])], w) Q := by
  have hn : ([] : List z_C).length = 0 := rfl
  refine z_aload_n 0 dX8_init_0 rfl rfl ?_
  refine z_objInit (z_w1 198 (by decide +kernel) (by decide +kernel)) z_oin z_oco ⟨Nat.le_of_ble_eq_true rfl, Nat.le_of_ble_eq_true rfl⟩ dX8_init_1 ?_
  rw [← z_zf_0 w (0 + 1)]
  show z_Sem mX8_init (1, 0) 4 [(0, z_r 0)] [] ([] ++ .inl (8, [some none, some none, some none, some none, some none, some none, some none, some none, none]) :: [], z_zf w (0 + 1) (0 + 1)) Q
  refine z_sB (k := 0) z_rwcX3 z_clX8_9 zlRX8_11 ⟨Nat.le_of_ble_eq_true rfl, Nat.le_of_ble_eq_true rfl⟩ hn (m := 0 + 1 + 0) (by simp only [List.length_append, List.length_cons, List.length_nil, z_lgs_len, z_nts_len, z_tps_len, z_txs_len, z_pls_len, z_rds_len, z_hss_len, z_sls_len]) rfl dX8_init_4 dX8_init_5 dX8_init_8 dX8_init_9 zoRX8_12 rfl z_hto dX8_init_12 (Nat.le_of_ble_eq_true rfl) (Nat.le_of_ble_eq_true rfl) (by omega) ⟨by show _ ≤ 0 + 1 + 160; omega, by show (325 : Nat) ≤ (6892 : Nat); decide⟩ ?_
  refine z_sB (k := 1) z_rwcX2 z_clX8_16 zlRX8_18 ⟨Nat.le_of_ble_eq_true rfl, Nat.le_of_ble_eq_true rfl⟩ hn (m := 0 + 1 + 11) (by simp only [List.length_append, List.length_cons, List.length_nil, z_lgs_len, z_nts_len, z_tps_len, z_txs_len, z_pls_len, z_rds_len, z_hss_len, z_sls_len]) rfl dX8_init_15 dX8_init_16 dX8_init_19 dX8_init_20 zoRX8_19 rfl z_hto dX8_init_23 (Nat.le_of_ble_eq_true rfl) (Nat.le_of_ble_eq_true rfl) (by omega) ⟨by show _ ≤ 0 + 1 + 160; omega, by show (672 : Nat) ≤ (6892 : Nat); decide⟩ ?_
  refine z_sB (k := 2) z_rwcX2 z_clX8_16 zlRX8_18 ⟨Nat.le_of_ble_eq_true rfl, Nat.le_of_ble_eq_true rfl⟩ hn (m := 0 + 1 + 17) (by simp only [List.length_append, List.length_cons, List.length_nil, z_lgs_len, z_nts_len, z_tps_len, z_txs_len, z_pls_len, z_rds_len, z_hss_len, z_sls_len]) rfl dX8_init_26 dX8_init_27 dX8_init_30 dX8_init_31 zoRX8_23 rfl z_hto dX8_init_34 (Nat.le_of_ble_eq_true rfl) (Nat.le_of_ble_eq_true rfl) (by omega) ⟨by show _ ≤ 0 + 1 + 160; omega, by show (1019 : Nat) ≤ (6892 : Nat); decide⟩ ?_
  refine z_sB (k := 3) z_rwcX0 z_clX8_26 zlRX8_28 ⟨Nat.le_of_ble_eq_true rfl, Nat.le_of_ble_eq_true rfl⟩ hn (m := 0 + 1 + 23) (by simp only [List.length_append, List.length_cons, List.length_nil, z_lgs_len, z_nts_len, z_tps_len, z_txs_len, z_pls_len, z_rds_len, z_hss_len, z_sls_len]) rfl dX8_init_37 dX8_init_38 dX8_init_41 dX8_init_42 zoRX8_29 rfl z_hto dX8_init_45 (Nat.le_of_ble_eq_true rfl) (Nat.le_of_ble_eq_true rfl) (by omega) ⟨by show _ ≤ 0 + 1 + 160; omega, by show (3630 : Nat) ≤ (6892 : Nat); decide⟩ ?_
  refine z_sB (k := 4) z_rwcX5 z_clX8_33 zlRX8_35 ⟨Nat.le_of_ble_eq_true rfl, Nat.le_of_ble_eq_true rfl⟩ hn (m := 0 + 1 + 113) (by simp only [List.length_append, List.length_cons, List.length_nil, z_lgs_len, z_nts_len, z_tps_len, z_txs_len, z_pls_len, z_rds_len, z_hss_len, z_sls_len]) rfl dX8_init_48 dX8_init_49 dX8_init_52 dX8_init_53 zoRX8_36 rfl z_hto dX8_init_56 (Nat.le_of_ble_eq_true rfl) (Nat.le_of_ble_eq_true rfl) (by omega) ⟨by show _ ≤ 0 + 1 + 160; omega, by show (4286 : Nat) ≤ (6892 : Nat); decide⟩ ?_
  refine z_sB (k := 5) z_rwcX4 z_clX8_40 zlRX8_42 ⟨Nat.le_of_ble_eq_true rfl, Nat.le_of_ble_eq_true rfl⟩ hn (m := 0 + 1 + 138) (by simp only [List.length_append, List.length_cons, List.length_nil, z_lgs_len, z_nts_len, z_tps_len, z_txs_len, z_pls_len, z_rds_len, z_hss_len, z_sls_len]) rfl dX8_init_59 dX8_init_60 dX8_init_63 dX8_init_64 zoRX8_43 rfl z_hto dX8_init_67 (Nat.le_of_ble_eq_true rfl) (Nat.le_of_ble_eq_true rfl) (by omega) ⟨by show _ ≤ 0 + 1 + 160; omega, by show (5866 : Nat) ≤ (6892 : Nat); decide⟩ ?_
  refine z_aload_n 0 dX8_init_70 rfl rfl ?_
  refine z_aload_n 0 dX8_init_71 rfl rfl ?_
  refine z_getR (r := 139) zfRX8_43 dX8_init_72 (z_apget hn) rfl ?_
  refine z_getR (r := 140) zfRX8_47 dX8_init_75 (by rfl) rfl ?_
  refine z_putR (k := 6) zoRX8_51 rfl z_hto dX8_init_78 (z_apget hn) (by decide) ?_
  rw [z_uE, z_apset hn]
  refine z_sB (k := 7) z_rwcX7 z_clX8_52 zlRX8_54 ⟨Nat.le_of_ble_eq_true rfl, Nat.le_of_ble_eq_true rfl⟩ hn (m := 0 + 1 + 158) (by simp only [List.length_append, List.length_cons, List.length_nil, z_lgs_len, z_nts_len, z_tps_len, z_txs_len, z_pls_len, z_rds_len, z_hss_len, z_sls_len]) rfl dX8_init_81 dX8_init_82 dX8_init_85 dX8_init_86 zoRX8_55 rfl z_hto dX8_init_89 (Nat.le_of_ble_eq_true rfl) (Nat.le_of_ble_eq_true rfl) (by omega) ⟨by show _ ≤ 0 + 1 + 160; omega, by show (6892 : Nat) ≤ (6892 : Nat); decide⟩ ?_
  show z_Sem mX8_init (1, 6892) 92 [(0, z_r 0)] [] (z_tgs, z_zf w 1 161) Q
  have hT := z_tgs_is
  refine z_aload_n 0 dX8_init_92 rfl rfl ?_
  refine z_bipush (n := -2) dX8_init_93 rfl (by constructor <;> decide) ?_
  refine z_putI (ki := 8) zfRX8_59 dX8_init_95 hT.1 rfl rfl ?_
  refine z_genw (fun w1 e1 => ?_)
  have g0 : ∀ (b : Nat) (j : Int), 1 ≤ b → b < 161 → w1 b j = 0 := fun b j h1 h2 => by
    rw [e1, z_W_ne (Or.inl (by omega))]
    exact z_zf_in h1 h2
  have g1 : w1 0 8 = -2 := by rw [e1, z_W_same]
  have g2 : ∀ a : Nat, 161 ≤ a → w1 a = w a := fun a ha => by
    funext j
    rw [e1, z_W_ne (Or.inl (by omega)), z_zf_out (Or.inr ha)]
  refine z_aload_n 0 dX8_init_98 rfl rfl ?_
  refine z_getR (r := 1) zfRX8_12 dX8_init_99 hT.1 rfl ?_
  refine z_callV (As := []) (rest := []) zmX3_clear znX3_clear zsX3_clear (show vwCl[3]? = some (RX3, TX3, 12) from rfl) zlRX8_63 ⟨Nat.le_of_ble_eq_true rfl, Nat.le_of_ble_eq_true rfl⟩ dX8_init_102 hT.2.1.1 rfl rfl z_a0 (Nat.le_of_ble_eq_true rfl) (Nat.le_of_ble_eq_true rfl) ⟨by show z_tgs.length + 0 ≤ 1 + 160; rw [z_tgs_len]; decide, by show 6892 + 0 ≤ 6892; decide⟩ ?_
  refine z_CVm (K := fun w2 => z_Sem mX8_init (1, 6892) 105 [(0, z_r 0)] [] (z_tgs, w2) Q) (c_planClear hT.2.1 (fun g _ _ => by rw [g0 _ _ (by omega) (by omega)]; decide) (fun w2 p2 f2 => ?_)) (fun w2 h2 => h2)
  show z_Sem mX8_init (1, 6892) 105 [(0, z_r 0)] [] (z_tgs, w2) Q
  refine z_aload_n 0 dX8_init_105 rfl rfl ?_
  refine z_getR (r := 12) zfRX8_19 dX8_init_106 hT.1 rfl ?_
  refine z_aload_n 0 dX8_init_109 rfl rfl ?_
  refine z_getR (r := 1) zfRX8_12 dX8_init_110 hT.1 rfl ?_
  refine z_iconst (n := -1) dX8_init_113 (by constructor <;> decide) ?_
  have ok : z_ok (z_ini 100) := z_ok_ini (by decide)
  refine z_callV (As := [z_r 1, z_i (-1)]) (rest := []) zmX2_build znX2_build zsX2_build (show vwCl[2]? = some (RX2, TX2, 7) from rfl) zlRX8_66 ⟨Nat.le_of_ble_eq_true rfl, Nat.le_of_ble_eq_true rfl⟩ dX8_init_114 hT.2.2.1.1 rfl rfl (z_ar (z_ai z_a0)) (Nat.le_of_ble_eq_true rfl) (Nat.le_of_ble_eq_true rfl) ⟨by show z_tgs.length + 0 ≤ 1 + 160; rw [z_tgs_len]; decide, by show 6892 + 0 ≤ 6892; decide⟩ ?_
  refine z_CVm (K := fun w3 => z_Sem mX8_init (1, 6892) 117 [(0, z_r 0)] [] (z_tgs, w3) Q) (c_build hT.2.2.1 hT.2.1 ok.1 ok.2.1 (Or.inl (by decide)) p2.1 (fun w3 n3 f3 => ?_)) (fun w3 h3 => h3)
  show z_Sem mX8_init (1, 6892) 117 [(0, z_r 0)] [] (z_tgs, w3) Q
  have fr : ∀ a : Nat, (a < 1 ∨ 17 < a) → w3 a = w1 a := fun a ha => (f3 a (by omega)).trans (f2 a (by omega))
  refine z_ret (v := none) dX8_init_117 ⟨rfl, rfl⟩ (by show z_tgs.length = 1 + 160; rw [z_tgs_len]) rfl ?_
  refine h w3 ⟨ok, p2.fr ok.1 (fun a _ _ => f3 a (by omega)), n3, fun B hB => (by cases hB), z_hr_nil (by rw [fr 24 (by omega)]; exact g0 _ _ (by omega) (by omega)) (by rw [fr 24 (by omega)]; exact g0 _ _ (by omega) (by omega))⟩ ⟨⟨by decide, by decide⟩, by rw [fr 140 (by omega)]; exact g0 _ _ (by omega) (by omega), fun i i0 i1 => absurd i1 (by show ¬ i < 0; omega)⟩ (by rw [fr 0 (by omega)]; exact g1) (fun i hi => ⟨fun _ => by rw [fr 116 (by omega)]; exact g0 _ _ (by omega) (by omega), fun B hB => by cases hB⟩) (fun g _ _ => by rw [fr 150 (by omega), g0 _ _ (by omega) (by omega)]; decide) (fun a ha => (fr a (by omega)).trans (g2 a ha))
def z_mds : List z_C := .inl (9, [some (some 162), none, none, some (some 163), some (some 164), some (some 165), some (some 166), some (some 167), none, some (some 168), some (some 169), some (some 170), some (some 171), none, some (some 172), none, none, none, none, none, none, some (some 173), some (some 174), none, none, none, some (some 175), some (some 176), none]) :: ((((((((((((((([] ++ [.inr (.inl (2, 900))]) ++ [.inr (.inl (0, 264))]) ++ [.inr (.inl (0, 264))]) ++ [.inr (.inl (0, 2112))]) ++ [.inr (.inl (0, 528))]) ++ [.inr (.inl (1, 2))]) ++ [.inr (.inl (0, 60))]) ++ [.inr (.inl (0, 60))]) ++ [.inr (.inl (0, 60))]) ++ [.inr (.inl (0, 60))]) ++ [.inr (.inl (0, 100))]) ++ [.inr (.inl (0, 120))]) ++ [.inr (.inl (0, 12))]) ++ [.inr (.inl (0, 100))]) ++ [.inr (.inl (2, 1200))])
def z_shs : List z_C := z_tgs ++ z_mds
theorem z_shs_len : z_shs.length = 177 := by decide +kernel
theorem z_shs_TG : z_isTG z_shs 0 := by
  unfold z_isTG z_isHis z_isSlo z_isRea z_isPla z_isNet z_isTap z_isTex z_isLog
  repeat' apply And.intro
  all_goals first | decide +kernel | (intro k hk; rcases (show k = 0 ∨ k = 1 ∨ k = 2 ∨ k = 3 ∨ k = 4 ∨ k = 5 ∨ k = 6 ∨ k = 7 by omega) with rfl | rfl | rfl | rfl | rfl | rfl | rfl | rfl <;> first | (exact absurd hk (by decide)) | ((repeat' apply And.intro) <;> decide +kernel))
theorem z_shs_is : z_isMod z_shs 161 := by
  unfold z_isMod
  repeat' apply And.intro
  all_goals first | decide +kernel | (intro k hk; rcases (show k = 0 ∨ k = 1 ∨ k = 2 ∨ k = 3 ∨ k = 4 ∨ k = 5 ∨ k = 6 ∨ k = 7 by omega) with rfl | rfl | rfl | rfl | rfl | rfl | rfl | rfl <;> first | (exact absurd hk (by decide)) | ((repeat' apply And.intro) <;> decide +kernel))
/-- what the reference's constructor leaves behind -/
theorem z_newMd {w : z_Mm} {Q : Option z_V → z_S → Prop} (h : ∀ w' : z_Mm, z_ms w' (z_ini 100) [] → z_tr w' (0, fun _ => 0) → w' 161 2 = -2 → z_sm w' (fun _ => none) → (∀ a : Nat, (a < 161 ∨ 176 < a) → w' a = w a) → Q none (z_shs, w')) (hz : ∀ j : Int, w 161 j = 0) : z_Sem mX9_init (162, 0) 0 [(0, z_r 161)] [] (z_tgs ++ [.inl (9, [some none, none, none, some none, some none, some none, some none, some none, none, some none, some none, some none, some none, none, some none, none, none, none, none, none, none, some none, some none, none, none, none, some none, some none, none])], w) Q := by
  have hn : z_tgs.length = 161 := z_tgs_len
  refine z_aload_n 0 dX9_init_0 rfl rfl ?_
  refine z_objInit (z_w1 1266 (by decide +kernel) (by decide +kernel)) z_oin z_oco ⟨Nat.le_of_ble_eq_true rfl, Nat.le_of_ble_eq_true rfl⟩ dX9_init_1 ?_
  rw [← z_zf_0 w (161 + 1)]
  refine z_sA (N := 900) (kd := 2) (k := 0) hn (m := 161 + 1 + 0) (by simp only [List.length_append, List.length_cons, List.length_nil, z_lgs_len, z_nts_len, z_tps_len, z_txs_len, z_pls_len, z_rds_len, z_hss_len, z_sls_len]) rfl dX9_init_4 (z_hp3 (n := 900) dX9_init_5 rfl (by constructor <;> decide)) (Or.inr (Or.inr ⟨rfl, rfl⟩)) z_awb (by decide) dX9_init_8 zoRX9_7 rfl z_htb dX9_init_10 (Nat.le_of_ble_eq_true rfl) (by omega) ⟨by show _ ≤ 161 + 1 + 15; omega, by show (900 : Nat) ≤ (5842 : Nat); decide⟩ ?_
  refine z_aload_n 0 dX9_init_13 rfl rfl ?_
  refine z_bipush (n := -2) dX9_init_14 rfl (by constructor <;> decide) ?_
  refine z_putI (ki := 2) zfRX9_13 dX9_init_16 (z_apget hn) rfl rfl ?_
  refine z_genw (fun wa ea => ?_)
  rw [z_zf_W (by decide)] at ea
  subst ea
  refine z_sA (N := 264) (kd := 0) (k := 3) hn (m := 161 + 1 + 1) (by simp only [List.length_append, List.length_cons, List.length_nil, z_lgs_len, z_nts_len, z_tps_len, z_txs_len, z_pls_len, z_rds_len, z_hss_len, z_sls_len]) rfl dX9_init_19 (z_hp3 (n := 264) dX9_init_20 rfl (by constructor <;> decide)) (Or.inl ⟨rfl, rfl⟩) z_awi (by decide) dX9_init_23 zoRX9_17 rfl z_hta dX9_init_25 (Nat.le_of_ble_eq_true rfl) (by omega) ⟨by show _ ≤ 161 + 1 + 15; omega, by show (1164 : Nat) ≤ (5842 : Nat); decide⟩ ?_
  refine z_sA (N := 264) (kd := 0) (k := 4) hn (m := 161 + 1 + 2) (by simp only [List.length_append, List.length_cons, List.length_nil, z_lgs_len, z_nts_len, z_tps_len, z_txs_len, z_pls_len, z_rds_len, z_hss_len, z_sls_len]) rfl dX9_init_28 (z_hp3 (n := 264) dX9_init_29 rfl (by constructor <;> decide)) (Or.inl ⟨rfl, rfl⟩) z_awi (by decide) dX9_init_32 zoRX9_21 rfl z_hta dX9_init_34 (Nat.le_of_ble_eq_true rfl) (by omega) ⟨by show _ ≤ 161 + 1 + 15; omega, by show (1428 : Nat) ≤ (5842 : Nat); decide⟩ ?_
  refine z_sA (N := 2112) (kd := 0) (k := 5) hn (m := 161 + 1 + 3) (by simp only [List.length_append, List.length_cons, List.length_nil, z_lgs_len, z_nts_len, z_tps_len, z_txs_len, z_pls_len, z_rds_len, z_hss_len, z_sls_len]) rfl dX9_init_37 (z_hp3 (n := 2112) dX9_init_38 rfl (by constructor <;> decide)) (Or.inl ⟨rfl, rfl⟩) z_awi (by decide) dX9_init_41 zoRX9_24 rfl z_hta dX9_init_43 (Nat.le_of_ble_eq_true rfl) (by omega) ⟨by show _ ≤ 161 + 1 + 15; omega, by show (3540 : Nat) ≤ (5842 : Nat); decide⟩ ?_
  refine z_sA (N := 528) (kd := 0) (k := 6) hn (m := 161 + 1 + 4) (by simp only [List.length_append, List.length_cons, List.length_nil, z_lgs_len, z_nts_len, z_tps_len, z_txs_len, z_pls_len, z_rds_len, z_hss_len, z_sls_len]) rfl dX9_init_46 (z_hp3 (n := 528) dX9_init_47 rfl (by constructor <;> decide)) (Or.inl ⟨rfl, rfl⟩) z_awi (by decide) dX9_init_50 zoRX9_27 rfl z_hta dX9_init_52 (Nat.le_of_ble_eq_true rfl) (by omega) ⟨by show _ ≤ 161 + 1 + 15; omega, by show (4068 : Nat) ≤ (5842 : Nat); decide⟩ ?_
  refine z_sA (N := 2) (kd := 1) (k := 7) hn (m := 161 + 1 + 5) (by simp only [List.length_append, List.length_cons, List.length_nil, z_lgs_len, z_nts_len, z_tps_len, z_txs_len, z_pls_len, z_rds_len, z_hss_len, z_sls_len]) rfl dX9_init_55 (z_hp1 (n := 2) dX9_init_56 (by constructor <;> decide)) (Or.inr (Or.inl ⟨rfl, rfl⟩)) z_awz (by decide) dX9_init_57 zoRX9_30 rfl z_htz dX9_init_59 (Nat.le_of_ble_eq_true rfl) (by omega) ⟨by show _ ≤ 161 + 1 + 15; omega, by show (4070 : Nat) ≤ (5842 : Nat); decide⟩ ?_
  refine z_sA (N := 60) (kd := 0) (k := 9) hn (m := 161 + 1 + 6) (by simp only [List.length_append, List.length_cons, List.length_nil, z_lgs_len, z_nts_len, z_tps_len, z_txs_len, z_pls_len, z_rds_len, z_hss_len, z_sls_len]) rfl dX9_init_62 (z_hp2 (n := 60) dX9_init_63 rfl (by constructor <;> decide)) (Or.inl ⟨rfl, rfl⟩) z_awi (by decide) dX9_init_65 zoRX9_34 rfl z_hta dX9_init_67 (Nat.le_of_ble_eq_true rfl) (by omega) ⟨by show _ ≤ 161 + 1 + 15; omega, by show (4130 : Nat) ≤ (5842 : Nat); decide⟩ ?_
  refine z_sA (N := 60) (kd := 0) (k := 10) hn (m := 161 + 1 + 7) (by simp only [List.length_append, List.length_cons, List.length_nil, z_lgs_len, z_nts_len, z_tps_len, z_txs_len, z_pls_len, z_rds_len, z_hss_len, z_sls_len]) rfl dX9_init_70 (z_hp2 (n := 60) dX9_init_71 rfl (by constructor <;> decide)) (Or.inl ⟨rfl, rfl⟩) z_awi (by decide) dX9_init_73 zoRX9_37 rfl z_hta dX9_init_75 (Nat.le_of_ble_eq_true rfl) (by omega) ⟨by show _ ≤ 161 + 1 + 15; omega, by show (4190 : Nat) ≤ (5842 : Nat); decide⟩ ?_
  refine z_sA (N := 60) (kd := 0) (k := 11) hn (m := 161 + 1 + 8) (by simp only [List.length_append, List.length_cons, List.length_nil, z_lgs_len, z_nts_len, z_tps_len, z_txs_len, z_pls_len, z_rds_len, z_hss_len, z_sls_len]) rfl dX9_init_78 (z_hp2 (n := 60) dX9_init_79 rfl (by constructor <;> decide)) (Or.inl ⟨rfl, rfl⟩) z_awi (by decide) dX9_init_81 zoRX9_40 rfl z_hta dX9_init_83 (Nat.le_of_ble_eq_true rfl) (by omega) ⟨by show _ ≤ 161 + 1 + 15; omega, by show (4250 : Nat) ≤ (5842 : Nat); decide⟩ ?_
  refine z_sA (N := 60) (kd := 0) (k := 12) hn (m := 161 + 1 + 9) (by simp only [List.length_append, List.length_cons, List.length_nil, z_lgs_len, z_nts_len, z_tps_len, z_txs_len, z_pls_len, z_rds_len, z_hss_len, z_sls_len]) rfl dX9_init_86 (z_hp2 (n := 60) dX9_init_87 rfl (by constructor <;> decide)) (Or.inl ⟨rfl, rfl⟩) z_awi (by decide) dX9_init_89 zoRX9_43 rfl z_hta dX9_init_91 (Nat.le_of_ble_eq_true rfl) (by omega) ⟨by show _ ≤ 161 + 1 + 15; omega, by show (4310 : Nat) ≤ (5842 : Nat); decide⟩ ?_
  refine z_sA (N := 100) (kd := 0) (k := 14) hn (m := 161 + 1 + 10) (by simp only [List.length_append, List.length_cons, List.length_nil, z_lgs_len, z_nts_len, z_tps_len, z_txs_len, z_pls_len, z_rds_len, z_hss_len, z_sls_len]) rfl dX9_init_94 (z_hp2 (n := 100) dX9_init_95 rfl (by constructor <;> decide)) (Or.inl ⟨rfl, rfl⟩) z_awi (by decide) dX9_init_97 zoRX9_46 rfl z_hta dX9_init_99 (Nat.le_of_ble_eq_true rfl) (by omega) ⟨by show _ ≤ 161 + 1 + 15; omega, by show (4410 : Nat) ≤ (5842 : Nat); decide⟩ ?_
  refine z_sA (N := 120) (kd := 0) (k := 21) hn (m := 161 + 1 + 11) (by simp only [List.length_append, List.length_cons, List.length_nil, z_lgs_len, z_nts_len, z_tps_len, z_txs_len, z_pls_len, z_rds_len, z_hss_len, z_sls_len]) rfl dX9_init_102 (z_hp2 (n := 120) dX9_init_103 rfl (by constructor <;> decide)) (Or.inl ⟨rfl, rfl⟩) z_awi (by decide) dX9_init_105 zoRX9_49 rfl z_hta dX9_init_107 (Nat.le_of_ble_eq_true rfl) (by omega) ⟨by show _ ≤ 161 + 1 + 15; omega, by show (4530 : Nat) ≤ (5842 : Nat); decide⟩ ?_
  refine z_sA (N := 12) (kd := 0) (k := 22) hn (m := 161 + 1 + 12) (by simp only [List.length_append, List.length_cons, List.length_nil, z_lgs_len, z_nts_len, z_tps_len, z_txs_len, z_pls_len, z_rds_len, z_hss_len, z_sls_len]) rfl dX9_init_110 (z_hp2 (n := 12) dX9_init_111 rfl (by constructor <;> decide)) (Or.inl ⟨rfl, rfl⟩) z_awi (by decide) dX9_init_113 zoRX9_52 rfl z_hta dX9_init_115 (Nat.le_of_ble_eq_true rfl) (by omega) ⟨by show _ ≤ 161 + 1 + 15; omega, by show (4542 : Nat) ≤ (5842 : Nat); decide⟩ ?_
  refine z_sA (N := 100) (kd := 0) (k := 26) hn (m := 161 + 1 + 13) (by simp only [List.length_append, List.length_cons, List.length_nil, z_lgs_len, z_nts_len, z_tps_len, z_txs_len, z_pls_len, z_rds_len, z_hss_len, z_sls_len]) rfl dX9_init_118 (z_hp2 (n := 100) dX9_init_119 rfl (by constructor <;> decide)) (Or.inl ⟨rfl, rfl⟩) z_awi (by decide) dX9_init_121 zoRX9_55 rfl z_hta dX9_init_123 (Nat.le_of_ble_eq_true rfl) (by omega) ⟨by show _ ≤ 161 + 1 + 15; omega, by show (4642 : Nat) ≤ (5842 : Nat); decide⟩ ?_
  refine z_sA (N := 1200) (kd := 2) (k := 27) hn (m := 161 + 1 + 14) (by simp only [List.length_append, List.length_cons, List.length_nil, z_lgs_len, z_nts_len, z_tps_len, z_txs_len, z_pls_len, z_rds_len, z_hss_len, z_sls_len]) rfl dX9_init_126 (z_hp3 (n := 1200) dX9_init_127 rfl (by constructor <;> decide)) (Or.inr (Or.inr ⟨rfl, rfl⟩)) z_awb (by decide) dX9_init_130 zoRX9_58 rfl z_htb dX9_init_132 (Nat.le_of_ble_eq_true rfl) (by omega) ⟨by show _ ≤ 161 + 1 + 15; omega, by show (5842 : Nat) ≤ (5842 : Nat); decide⟩ ?_
  show z_Sem mX9_init (162, 5842) 135 [(0, z_r 161)] [] (z_shs, z_zf (z_W w 161 2 (-2)) 162 177) Q
  have hM := z_shs_is
  refine z_aload_n 0 dX9_init_135 rfl rfl ?_
  refine z_getR (r := 163) zfRX9_17 dX9_init_136 hM.1 rfl ?_
  refine z_iconst (n := 0) dX9_init_139 (by constructor <;> decide) ?_
  refine z_bipush (n := 100) dX9_init_140 rfl (by constructor <;> decide) ?_
  refine z_iast dX9_init_142 hM.2.2.1 (by decide) ?_
  refine z_genw (fun w1 e1 => ?_)
  refine z_aload_n 0 dX9_init_143 rfl rfl ?_
  refine z_getR (r := 163) zfRX9_17 dX9_init_144 hM.1 rfl ?_
  refine z_iconst (n := 1) dX9_init_147 (by constructor <;> decide) ?_
  refine z_iconst (n := 1) dX9_init_148 (by constructor <;> decide) ?_
  refine z_iast dX9_init_149 hM.2.2.1 (by decide) ?_
  refine z_genw (fun w2 e2 => ?_)
  refine z_aload_n 0 dX9_init_150 rfl rfl ?_
  refine z_getR (r := 163) zfRX9_17 dX9_init_151 hM.1 rfl ?_
  refine z_iconst (n := 3) dX9_init_154 (by constructor <;> decide) ?_
  refine z_ldc (n := 20579924) zkRX9_61 dX9_init_155 (by decide) (by decide) ?_
  refine z_iast dX9_init_157 hM.2.2.1 (by decide) ?_
  refine z_genw (fun w3 e3 => ?_)
  have f3 : ∀ a : Nat, a ≠ 163 → w3 a = z_zf (z_W w 161 2 (-2)) 162 177 a := fun a ha => by
    funext j
    rw [e3, z_W_ne (Or.inl ha), e2, z_W_ne (Or.inl ha), e1, z_W_ne (Or.inl ha)]
  have g : ∀ (a : Nat) (j : Int), 162 ≤ a → a < 177 → a ≠ 163 → w3 a j = 0 := fun a j h1 h2 h3 => by
    rw [f3 a h3]
    exact z_zf_in h1 h2
  have o : ∀ j : Int, j ≠ 2 → w3 161 j = 0 := fun j hj => by
    rw [f3 161 (by decide), z_zf_out (Or.inl (by decide)), z_W_ne (Or.inr hj)]
    exact hz j
  refine z_ret (v := none) dX9_init_158 ⟨rfl, rfl⟩ (by show z_shs.length = 162 + 15; rw [z_shs_len]) rfl ?_
  refine h w3 ⟨z_mr_ini (fun j j0 j1 => ?_), by decide, by rw [o 8 (by decide)]; rfl, fun k B hB => by cases hB⟩ ⟨by rw [o 1 (by decide)], fun i i0 i1 => absurd i1 (by show ¬ i < 0; omega)⟩ ?_ (fun i hi => ⟨fun _ => g 167 _ (by decide) (by decide) (by decide), fun B hB => by cases hB⟩) (fun a ha => ?_)
  · have z0 : ∀ j : Int, z_zf (z_W w 161 2 (-2)) 162 177 163 j = 0 := fun j => z_zf_in (by decide) (by decide)
    by_cases c0 : j = 0
    · rw [c0, e3, z_W_ne (Or.inr (by decide)), e2, z_W_ne (Or.inr (by decide)), e1, z_W_same]; rfl
    · rw [if_neg c0]
      by_cases c1 : j = 1
      · rw [c1, e3, z_W_ne (Or.inr (by decide)), e2, z_W_same]; rfl
      · rw [if_neg c1]
        by_cases c3 : j = 3
        · rw [c3, e3, z_W_same]; rfl
        · rw [if_neg c3, e3, z_W_ne (Or.inr c3), e2, z_W_ne (Or.inr c1), e1, z_W_ne (Or.inr c0)]
          exact z0 j
  · rw [f3 161 (by decide), z_zf_out (Or.inl (by decide)), z_W_same]
  · rw [f3 a (by omega), z_zf_out (by omega)]
    funext j
    exact z_W_ne (Or.inl (by omega))
