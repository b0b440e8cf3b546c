/-! THE TWO OBJECTS. -/
def z_tgs : List z_C := .inl (8, [some (some 1), some (some 12), some (some 18), some (some 24), some (some 114), some (some 139), some (some 140), some (some 159), none]) :: ((((((([] ++ z_pls 1) ++ z_nts 12) ++ z_nts 18) ++ z_hss 24) ++ z_sls 114) ++ z_rds 139) ++ z_txs 159)
theorem z_tgs_len : z_tgs.length = 161 := by decide +kernel
def z_lowB : z_C → Bool
  | .inl (_, fl) => fl.all (fun o => match o with | some (some a) => Nat.ble (a + 1) 161 | _ => true)
  | .inr (.inl _) => true
  | .inr (.inr rs) => rs.all (fun o => match o with | some a => Nat.ble (a + 1) 161 | none => true)
theorem z_lowB_vc {c : z_C} (h : z_lowB c = true) : z_vc 161 c := by
  rcases c with ⟨ci, fl⟩ | c | rs
  · intro o ho a ha
    have := List.all_eq_true.mp h o ho
    rw [ha] at this
    exact Or.inl (Nat.le_of_ble_eq_true this)
  · exact True.intro
  · intro o ho a ha
    have := List.all_eq_true.mp h o ho
    rw [show o = some a by injection ha] at this
    exact Or.inl (Nat.le_of_ble_eq_true this)
theorem z_tgs_cls : z_cls0 z_tgs := by
  unfold z_cls0
  rw [z_tgs_len]
  have h : z_tgs.all z_lowB = true := by decide +kernel
  exact fun c hc => z_lowB_vc (List.all_eq_true.mp h c hc)
theorem z_tgs_is : z_isTG z_tgs 0 := by
  unfold z_isTG z_isHis z_isSlo z_isRea z_isPla z_isNet z_isTap z_isTex z_isLog
  repeat' apply And.intro
  all_goals first | decide +kernel | (intro k hk; rcases (show k = 0 ∨ k = 1 ∨ k = 2 ∨ k = 3 ∨ k = 4 ∨ k = 5 ∨ k = 6 ∨ k = 7 by omega) with rfl | rfl | rfl | rfl | rfl | rfl | rfl | rfl <;> first | (exact absurd hk (by decide)) | ((repeat' apply And.intro) <;> decide +kernel))
theorem z_hr_nil {w : z_Mm} (h2 : w 24 2 = 0) (h1 : w 24 1 = 0) : z_hr w [] := ⟨by decide, by rw [h2]; rfl, by rw [h1]; decide, fun k A h => by cases h⟩
theorem z_zf_in {w : z_Mm} {lo hi b : Nat} {j : Int} (h1 : lo ≤ b) (h2 : b < hi) : z_zf w lo hi b j = 0 := by
  unfold z_zf
  rw [if_pos ⟨h1, h2⟩]
theorem z_zf_out {w : z_Mm} {lo hi b : Nat} (h : b < lo ∨ hi ≤ b) : z_zf w lo hi b = w b := by
  unfold z_zf
  rw [if_neg (by omega)]
theorem z_newTG : z_ctorTG z_tgs := by
  refine ⟨z_tgs_len, z_tgs_is, z_tgs_cls, fun w Q h => ?_⟩
  have hlo : z_cls0 ([] ++ ([.inl (8, [some none, some none, some none, some none, some none, some none, some none, some none, none])] : List z_C)) := z_cls_fl (N := 9) (ty := tyX8) (by intro c hc; cases hc) ⟨rfl, by decide +kernel⟩
  have hLv : z_lv (0 + 1) [(0, z_r 0)] := z_lv1 (by omega)
  have hn : ([] : List z_C).length = 0 := rfl
  refine z_aload_n 0 dX8_init_0 rfl rfl ?_
  refine z_objInit zORX8_3 z_oin z_oco ⟨Nat.le_of_ble_eq_true rfl, Nat.le_of_ble_eq_true rfl⟩ dX8_init_1 ?_
  rw [← z_zf_0 w (0 + 1)]
  show z_Sem mX8_init (1, 0) 4 [(0, z_r 0)] [] ([] ++ .inl (8, [some none, some none, some none, some none, some none, some none, some none, some none, none]) :: [], z_zf w (0 + 1) (0 + 1)) Q
  refine z_sB (k := 0) z_rwcX3 zcRX8_9 zlRX8_11 ⟨Nat.le_of_ble_eq_true rfl, Nat.le_of_ble_eq_true rfl⟩ hn (m := 0 + 1 + 0) (by simp only [List.length_append, List.length_cons, List.length_nil, z_lgs_len, z_nts_len, z_tps_len, z_txs_len, z_pls_len, z_rds_len, z_hss_len, z_sls_len]) rfl dX8_init_4 dX8_init_5 dX8_init_8 dX8_init_9 zoRX8_12 rfl z_hto dX8_init_12 (Nat.le_of_ble_eq_true rfl) (Nat.le_of_ble_eq_true rfl) (by omega) (z_pls_len _) ⟨by show (325 : Nat) ≤ (6892 : Nat); decide, by show (325 : Nat) ≤ (6892 : Nat); decide⟩ hLv hlo (fun hlo => ?_)
  refine z_sB (k := 1) z_rwcX2 zcRX8_16 zlRX8_18 ⟨Nat.le_of_ble_eq_true rfl, Nat.le_of_ble_eq_true rfl⟩ hn (m := 0 + 1 + 11) (by simp only [List.length_append, List.length_cons, List.length_nil, z_lgs_len, z_nts_len, z_tps_len, z_txs_len, z_pls_len, z_rds_len, z_hss_len, z_sls_len]) rfl dX8_init_15 dX8_init_16 dX8_init_19 dX8_init_20 zoRX8_19 rfl z_hto dX8_init_23 (Nat.le_of_ble_eq_true rfl) (Nat.le_of_ble_eq_true rfl) (by omega) (z_nts_len _) ⟨by show (672 : Nat) ≤ (6892 : Nat); decide, by show (672 : Nat) ≤ (6892 : Nat); decide⟩ hLv hlo (fun hlo => ?_)
  refine z_sB (k := 2) z_rwcX2 zcRX8_16 zlRX8_18 ⟨Nat.le_of_ble_eq_true rfl, Nat.le_of_ble_eq_true rfl⟩ hn (m := 0 + 1 + 17) (by simp only [List.length_append, List.length_cons, List.length_nil, z_lgs_len, z_nts_len, z_tps_len, z_txs_len, z_pls_len, z_rds_len, z_hss_len, z_sls_len]) rfl dX8_init_26 dX8_init_27 dX8_init_30 dX8_init_31 zoRX8_23 rfl z_hto dX8_init_34 (Nat.le_of_ble_eq_true rfl) (Nat.le_of_ble_eq_true rfl) (by omega) (z_nts_len _) ⟨by show (1019 : Nat) ≤ (6892 : Nat); decide, by show (1019 : Nat) ≤ (6892 : Nat); decide⟩ hLv hlo (fun hlo => ?_)
  refine z_sB (k := 3) z_rwcX0 zcRX8_26 zlRX8_28 ⟨Nat.le_of_ble_eq_true rfl, Nat.le_of_ble_eq_true rfl⟩ hn (m := 0 + 1 + 23) (by simp only [List.length_append, List.length_cons, List.length_nil, z_lgs_len, z_nts_len, z_tps_len, z_txs_len, z_pls_len, z_rds_len, z_hss_len, z_sls_len]) rfl dX8_init_37 dX8_init_38 dX8_init_41 dX8_init_42 zoRX8_29 rfl z_hto dX8_init_45 (Nat.le_of_ble_eq_true rfl) (Nat.le_of_ble_eq_true rfl) (by omega) (z_hss_len _) ⟨by show (3630 : Nat) ≤ (6892 : Nat); decide, by show (3630 : Nat) ≤ (6892 : Nat); decide⟩ hLv hlo (fun hlo => ?_)
  refine z_sB (k := 4) z_rwcX5 zcRX8_33 zlRX8_35 ⟨Nat.le_of_ble_eq_true rfl, Nat.le_of_ble_eq_true rfl⟩ hn (m := 0 + 1 + 113) (by simp only [List.length_append, List.length_cons, List.length_nil, z_lgs_len, z_nts_len, z_tps_len, z_txs_len, z_pls_len, z_rds_len, z_hss_len, z_sls_len]) rfl dX8_init_48 dX8_init_49 dX8_init_52 dX8_init_53 zoRX8_36 rfl z_hto dX8_init_56 (Nat.le_of_ble_eq_true rfl) (Nat.le_of_ble_eq_true rfl) (by omega) (z_sls_len _) ⟨by show (4286 : Nat) ≤ (6892 : Nat); decide, by show (4286 : Nat) ≤ (6892 : Nat); decide⟩ hLv hlo (fun hlo => ?_)
  refine z_sB (k := 5) z_rwcX4 zcRX8_40 zlRX8_42 ⟨Nat.le_of_ble_eq_true rfl, Nat.le_of_ble_eq_true rfl⟩ hn (m := 0 + 1 + 138) (by simp only [List.length_append, List.length_cons, List.length_nil, z_lgs_len, z_nts_len, z_tps_len, z_txs_len, z_pls_len, z_rds_len, z_hss_len, z_sls_len]) rfl dX8_init_59 dX8_init_60 dX8_init_63 dX8_init_64 zoRX8_43 rfl z_hto dX8_init_67 (Nat.le_of_ble_eq_true rfl) (Nat.le_of_ble_eq_true rfl) (by omega) (z_rds_len _) ⟨by show (5866 : Nat) ≤ (6892 : Nat); decide, by show (5866 : Nat) ≤ (6892 : Nat); decide⟩ hLv hlo (fun hlo => ?_)
  refine z_aload_n 0 dX8_init_70 rfl rfl ?_
  refine z_aload_n 0 dX8_init_71 rfl rfl ?_
  refine z_getR (r := 139) zfRX8_43 dX8_init_72 (z_apget hn) rfl ?_
  refine z_getR (r := 140) zfRX8_47 dX8_init_75 (by rfl) rfl ?_
  refine z_putR (k := 6) zoRX8_51 (fun _ => rfl) z_hto dX8_init_78 (z_apget hn) (by decide) ?_
  rw [z_uE, z_apset hn]
  have hlo := z_cls_set (k := 6) (m := 140) hlo (by simp only [List.length_append, List.length_cons, List.length_nil, z_lgs_len, z_nts_len, z_tps_len, z_txs_len, z_pls_len, z_rds_len, z_hss_len, z_sls_len]; decide)
  refine z_sB (k := 7) z_rwcX7 zcRX8_52 zlRX8_54 ⟨Nat.le_of_ble_eq_true rfl, Nat.le_of_ble_eq_true rfl⟩ hn (m := 0 + 1 + 158) (by simp only [List.length_append, List.length_cons, List.length_nil, z_lgs_len, z_nts_len, z_tps_len, z_txs_len, z_pls_len, z_rds_len, z_hss_len, z_sls_len]) rfl dX8_init_81 dX8_init_82 dX8_init_85 dX8_init_86 zoRX8_55 rfl z_hto dX8_init_89 (Nat.le_of_ble_eq_true rfl) (Nat.le_of_ble_eq_true rfl) (by omega) (z_txs_len _) ⟨by show (6892 : Nat) ≤ (6892 : Nat); decide, by show (6892 : Nat) ≤ (6892 : Nat); decide⟩ hLv hlo (fun hlo => ?_)
  show z_Sem mX8_init (1, 6892) 92 [(0, z_r 0)] [] (z_tgs, z_zf w 1 161) Q
  have hT := z_tgs_is
  refine z_aload_n 0 dX8_init_92 rfl rfl ?_
  refine z_bipush (n := -2) dX8_init_93 rfl (by constructor <;> decide) ?_
  refine z_putI (ki := 8) zfRX8_59 dX8_init_95 hT.1 rfl rfl ?_
  refine z_genw (fun w1 e1 => ?_)
  have g0 : ∀ (b : Nat) (j : Int), 1 ≤ b → b < 161 → w1 b j = 0 := fun b j h1 h2 => by
    rw [e1, z_W_ne (Or.inl (by omega))]
    exact z_zf_in h1 h2
  have g1 : w1 0 8 = -2 := by rw [e1, z_W_same]
  have g2 : ∀ a : Nat, 161 ≤ a → w1 a = w a := fun a ha => by
    funext j
    rw [e1, z_W_ne (Or.inl (by omega)), z_zf_out (Or.inr ha)]
  refine z_aload_n 0 dX8_init_98 rfl rfl ?_
  refine z_getR (r := 1) zfRX8_12 dX8_init_99 hT.1 rfl ?_
  refine z_callV (As := []) (rest := []) zmX3_clear znX3_clear zsX3_clear (show z_Cl[3]? = some (RX3, TX3, 12) from rfl) zlRX8_63 ⟨Nat.le_of_ble_eq_true rfl, Nat.le_of_ble_eq_true rfl⟩ dX8_init_102 hT.2.1.1 rfl rfl z_a0 (Nat.le_of_ble_eq_true rfl) (Nat.le_of_ble_eq_true rfl) ⟨rfl, rfl⟩ ?_
  refine z_CVm (K := fun w2 => z_Sem mX8_init (1, 6892) 105 [(0, z_r 0)] [] (z_tgs, w2) Q) (c_planClear hT.2.1 (fun g _ _ => by rw [g0 _ _ (by omega) (by omega)]; decide) (fun w2 p2 f2 => ?_)) (fun w2 h2 => h2)
  show z_Sem mX8_init (1, 6892) 105 [(0, z_r 0)] [] (z_tgs, w2) Q
  refine z_aload_n 0 dX8_init_105 rfl rfl ?_
  refine z_getR (r := 12) zfRX8_19 dX8_init_106 hT.1 rfl ?_
  refine z_aload_n 0 dX8_init_109 rfl rfl ?_
  refine z_getR (r := 1) zfRX8_12 dX8_init_110 hT.1 rfl ?_
  refine z_iconst (n := -1) dX8_init_113 (by constructor <;> decide) ?_
  have ok : z_ok (z_ini 100) := z_ok_ini (by decide)
  refine z_callV (As := [z_r 1, z_i (-1)]) (rest := []) zmX2_build znX2_build zsX2_build (show z_Cl[2]? = some (RX2, TX2, 7) from rfl) zlRX8_66 ⟨Nat.le_of_ble_eq_true rfl, Nat.le_of_ble_eq_true rfl⟩ dX8_init_114 hT.2.2.1.1 rfl rfl (z_ar (z_ai z_a0)) (Nat.le_of_ble_eq_true rfl) (Nat.le_of_ble_eq_true rfl) ⟨rfl, rfl⟩ ?_
  refine z_CVm (K := fun w3 => z_Sem mX8_init (1, 6892) 117 [(0, z_r 0)] [] (z_tgs, w3) Q) (c_build hT.2.2.1 hT.2.1 ok.1 ok.2.1 (Or.inl (by decide)) p2.1 (fun w3 n3 f3 => ?_)) (fun w3 h3 => h3)
  show z_Sem mX8_init (1, 6892) 117 [(0, z_r 0)] [] (z_tgs, w3) Q
  have fr : ∀ a : Nat, (a < 1 ∨ 17 < a) → w3 a = w1 a := fun a ha => (f3 a (by omega)).trans (f2 a (by omega))
  refine z_ret (v := none) dX8_init_117 ⟨rfl, rfl⟩ rfl ?_
  refine h w3 (-2) ⟨⟨ok, p2.fr ok.1 (fun a _ _ => f3 a (by omega)), n3, fun B hB => (by cases hB), z_hr_nil (by rw [fr 24 (by omega)]; exact g0 _ _ (by omega) (by omega)) (by rw [fr 24 (by omega)]; exact g0 _ _ (by omega) (by omega))⟩, ⟨⟨by decide, by decide⟩, by rw [fr 140 (by omega)]; exact g0 _ _ (by omega) (by omega), fun i i0 i1 => absurd i1 (by show ¬ i < 0; omega)⟩, by rw [fr 0 (by omega)]; exact g1, fun i hi => ⟨fun _ => by rw [fr 116 (by omega)]; exact g0 _ _ (by omega) (by omega), fun B hB => by cases hB⟩, fun g _ _ => by rw [fr 150 (by omega), g0 _ _ (by omega) (by omega)]; decide⟩
