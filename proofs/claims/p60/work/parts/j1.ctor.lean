theorem z_apget2 {pre l : List z_C} {n : Nat} {x y : z_C} (hn : pre.length = n) : (pre ++ x :: y :: l)[n + 1]? = some y := by
  subst hn
  simp
theorem z_apset2 {pre l : List z_C} {n : Nat} {x y c : z_C} (hn : pre.length = n) : (pre ++ x :: y :: l).set (n + 1) c = pre ++ x :: c :: l := by
  subst hn
  rw [List.set_append_right _ _ (by omega), show pre.length + 1 - pre.length = 1 by omega]
  rfl
theorem z_cls_arr {pre l : List z_C} {x : z_C} {rs rs' : List (Option Nat)} (h : z_cls0 (pre ++ x :: .inr (.inr rs) :: l)) (h2 : ∀ o ∈ rs', ∀ a, o = some a → a < (pre ++ x :: (.inr (.inr rs) : z_C) :: l).length) : z_cls0 (pre ++ x :: .inr (.inr rs') :: l) := by
  have hl : (pre ++ x :: (.inr (.inr rs') : z_C) :: l).length = (pre ++ x :: (.inr (.inr rs) : z_C) :: l).length := by simp
  unfold z_cls0
  rw [hl]
  intro c hc
  rcases List.mem_append.mp hc with h1 | h1
  · exact h c (List.mem_append_left _ h1)
  · rcases List.mem_cons.mp h1 with rfl | h1
    · exact h c (by simp)
    · rcases List.mem_cons.mp h1 with rfl | h1
      · intro o ho a ha
        exact Or.inl (h2 o ho a (by injection ha))
      · exact h c (by simp [h1])
/-- k plans, one behind the other -/
def z_pk (m : Nat) : Nat → List z_C
  | 0 => []
  | k + 1 => z_pk m k ++ z_pls (m + 11 * k)
theorem z_pk_len (m : Nat) : ∀ k : Nat, (z_pk m k).length = 11 * k
  | 0 => rfl
  | k + 1 => by
    simp only [z_pk, List.length_append, z_pk_len m k, z_pls_len]
    omega
def z_arr (K b k : Nat) : List (Option Nat) := (List.range K).map (fun j => if j < k then some (b + 11 * j) else none)
theorem z_arr_len (K b k : Nat) : (z_arr K b k).length = K := by simp [z_arr]
theorem z_arr_0 (K b : Nat) : z_arr K b 0 = List.replicate K none := by
  apply List.ext_getElem?
  intro i
  simp only [z_arr, List.getElem?_map, List.getElem?_replicate]
  by_cases h : i < K
  · rw [List.getElem?_range h, if_pos h]; simp
  · rw [List.getElem?_eq_none (by simp; omega), if_neg h]; rfl
theorem z_arr_set {K b k : Nat} (h : k < K) : (z_arr K b k).set k (some (b + 11 * k)) = z_arr K b (k + 1) := by
  apply List.ext_getElem?
  intro i
  by_cases e : i = k
  · subst e
    rw [List.getElem?_set_self (by rw [z_arr_len]; exact h)]
    simp [z_arr, h]
  · rw [List.getElem?_set_ne (Ne.symm e)]
    simp only [z_arr, List.getElem?_map]
    by_cases hi : i < K
    · rw [List.getElem?_range hi]
      simp only [Option.map_some]
      congr 1
      by_cases c : i < k
      · rw [if_pos c, if_pos (by omega)]
      · rw [if_neg c, if_neg (by omega)]
    · rw [List.getElem?_eq_none (by simp; omega)]; rfl
theorem z_arr_K (K b : Nat) : z_arr K b K = (List.range K).map (fun j => some (b + 11 * j)) := by
  unfold z_arr
  apply List.map_congr_left
  intro j hj
  rw [if_pos (List.mem_range.mp hj)]
theorem z_arr_mem {K b k a : Nat} {o : Option Nat} (h : o ∈ z_arr K b k) (ha : o = some a) : a < b + 11 * k := by
  unfold z_arr at h
  obtain ⟨j, hj, e⟩ := List.mem_map.mp h
  rw [ha] at e
  by_cases c : j < k
  · rw [if_pos c] at e
    have : b + 11 * j = a := by injection e
    omega
  · rw [if_neg c] at e; cases e
theorem z_lvL {n a : Nat} {i j : Nat} {x : Int} (h : a < n) : z_lv n [(i, z_i x), (j, z_r a)] := by
  intro q hq
  simp only [List.mem_cons, List.not_mem_nil, or_false] at hq
  rcases hq with rfl | rfl
  · exact True.intro
  · exact Or.inl h
theorem z_svL {n a : Nat} {x : Int} (h : a < n) : z_sv1 n [z_i x, z_r a] := by
  intro q hq
  simp only [List.mem_cons, List.not_mem_nil, or_false] at hq
  rcases hq with rfl | rfl
  · exact True.intro
  · exact Or.inl h
theorem z_htq : ∀ b, narrow (.array (.object "TimeGaps$Plan")) (.ref b) = .ref b ∧ fits (.array (.object "TimeGaps$Plan")) (.ref b) = true := fun _ => ⟨rfl, rfl⟩
def z_hss (n : Nat) : List z_C := .inl (0, [some (some (n + 1)), none, none]) :: .inr (.inr ((List.range 8).map (fun j => some (n + 2 + 11 * j)))) :: z_pk (n + 2) 8
theorem z_loopX0 {pre : List z_C} {n : Nat} {w : z_Mm} {Q : Option z_V → z_S → Prop} (hn : pre.length = n) (hlt : n + 90 ≤ 1000) (h : z_cls0 (pre ++ z_hss n) → Q none (pre ++ z_hss n, z_zf w (n + 1) (n + 90))) : ∀ (d k : Nat), k + d = 8 → z_cls0 (pre ++ .inl (0, [some (some (n + 1)), none, none]) :: .inr (.inr (z_arr 8 (n + 2) k)) :: z_pk (n + 2) k) → z_Sem mX0_init (n + 1, 8 + 325 * k) 15 [(1, z_i (k : Int)), (0, z_r n)] [] (pre ++ .inl (0, [some (some (n + 1)), none, none]) :: .inr (.inr (z_arr 8 (n + 2) k)) :: z_pk (n + 2) k, z_zf w (n + 1) (n + 2 + 11 * k)) Q := by
  intro d
  induction d with
  | zero =>
    intro k hk hlo
    obtain rfl : k = 8 := by omega
    refine z_iload_n 0 dX0_init_15 rfl rfl ?_
    refine z_bipush (n := 8) dX0_init_16 rfl (by constructor <;> decide) ?_
    refine z_icmp_ge (tgt := 40) dX0_init_18 (by decide) (fun _ => ?_) (fun c => absurd (by decide) c)
    rw [z_arr_K] at hlo ⊢
    exact z_ret (v := none) dX0_init_40 ⟨rfl, rfl⟩ rfl (h hlo)
  | succ d ih =>
    intro k hk hlo
    have hlen : (pre ++ .inl (0, [some (some (n + 1)), none, none]) :: .inr (.inr (z_arr 8 (n + 2) k)) :: z_pk (n + 2) k).length = n + 2 + 11 * k := by
      simp only [List.length_append, List.length_cons, z_pk_len, hn]
      omega
    refine z_iload_n 0 dX0_init_15 rfl rfl ?_
    refine z_bipush (n := 8) dX0_init_16 rfl (by constructor <;> decide) ?_
    refine z_icmp_ge (tgt := 40) dX0_init_18 (by decide) (fun c => absurd c (by omega)) (fun _ => ?_)
    refine z_aload_n 1 dX0_init_21 rfl rfl ?_
    refine z_getR (r := n + 1) zfRX0_11 dX0_init_22 (z_apget hn) rfl ?_
    refine z_iload_n 0 dX0_init_25 rfl rfl ?_
    refine z_mk (k := 11) z_rwcX3 zcRX0_9 zlRX0_17 ⟨Nat.le_of_ble_eq_true rfl, Nat.le_of_ble_eq_true rfl⟩ dX0_init_26 dX0_init_29 dX0_init_30 hlen (by omega) (by omega) (z_lek rfl) hlo (z_lvL (by omega)) (z_svL (by omega)) ⟨by show 8 + 325 * k + 12 + 313 ≤ 2608; omega, by show 8 + 325 * k + 12 + 313 ≤ 2608; omega⟩ (fun hlo1 => ?_)
    have hv : (pre ++ .inl (0, [some (some (n + 1)), none, none]) :: .inr (.inr (z_arr 8 (n + 2) k)) :: z_pk (n + 2) k ++ z_pls (n + 2 + 11 * k))[n + 2 + 11 * k]? = some (.inl (3, _)) := z_apget hlen
    rw [z_zf_cat (by omega) (by omega), List.append_assoc, List.cons_append, List.cons_append]
    rw [List.append_assoc, List.cons_append, List.cons_append] at hv hlo1
    refine z_aast dX0_init_33 (z_apget2 hn) hv ⟨by omega, by rw [z_arr_len]; omega⟩ ?_
    rw [z_uE, z_apset2 hn, Int.toNat_natCast, z_arr_set (by omega)]
    refine z_iinc 0 dX0_init_34 rfl (by decide) rfl ⟨by omega, by omega⟩ ?_
    refine z_goto (tgt := 15) dX0_init_37 (by decide) ?_
    have hlo2 := z_cls_arr (rs' := z_arr 8 (n + 2) (k + 1)) hlo1 (fun o ho a ha => by
      have := z_arr_mem ho ha
      simp only [List.length_append, List.length_cons, z_pk_len, z_pls_len, hn]
      omega)
    have hi := ih (k + 1) (by omega) hlo2
    rw [show ((k + 1 : Nat) : Int) = (k : Int) + 1 by omega, show 8 + 325 * (k + 1) = 8 + 325 * k + 12 + 313 by omega, show n + 2 + 11 * (k + 1) = n + 2 + 11 * k + 11 by omega] at hi
    exact hi
def z_sls (n : Nat) : List z_C := .inl (5, [some (some (n + 1)), some (some (n + 2))]) :: .inr (.inr ((List.range 2).map (fun j => some (n + 3 + 11 * j)))) :: .inr (.inl (1, 2)) :: z_pk (n + 3) 2
theorem z_loopX5 {pre : List z_C} {n : Nat} {w : z_Mm} {Q : Option z_V → z_S → Prop} (hn : pre.length = n) (hlt : n + 25 ≤ 1000) (h : z_cls0 (pre ++ z_sls n) → Q none (pre ++ z_sls n, z_zf w (n + 1) (n + 25))) : ∀ (d k : Nat), k + d = 2 → z_cls0 (pre ++ .inl (5, [some (some (n + 1)), some (some (n + 2))]) :: .inr (.inr (z_arr 2 (n + 3) k)) :: .inr (.inl (1, 2)) :: z_pk (n + 3) k) → z_Sem mX5_init (n + 1, 4 + 325 * k) 21 [(1, z_i (k : Int)), (0, z_r n)] [] (pre ++ .inl (5, [some (some (n + 1)), some (some (n + 2))]) :: .inr (.inr (z_arr 2 (n + 3) k)) :: .inr (.inl (1, 2)) :: z_pk (n + 3) k, z_zf w (n + 1) (n + 3 + 11 * k)) Q := by
  intro d
  induction d with
  | zero =>
    intro k hk hlo
    obtain rfl : k = 2 := by omega
    refine z_iload_n 0 dX5_init_21 rfl rfl ?_
    refine z_iconst (n := 2) dX5_init_22 (by constructor <;> decide) ?_
    refine z_icmp_ge (tgt := 45) dX5_init_23 (by decide) (fun _ => ?_) (fun c => absurd (by decide) c)
    rw [z_arr_K] at hlo ⊢
    exact z_ret (v := none) dX5_init_45 ⟨rfl, rfl⟩ rfl (h hlo)
  | succ d ih =>
    intro k hk hlo
    have hlen : (pre ++ .inl (5, [some (some (n + 1)), some (some (n + 2))]) :: .inr (.inr (z_arr 2 (n + 3) k)) :: .inr (.inl (1, 2)) :: z_pk (n + 3) k).length = n + 3 + 11 * k := by
      simp only [List.length_append, List.length_cons, z_pk_len, hn]
      omega
    refine z_iload_n 0 dX5_init_21 rfl rfl ?_
    refine z_iconst (n := 2) dX5_init_22 (by constructor <;> decide) ?_
    refine z_icmp_ge (tgt := 45) dX5_init_23 (by decide) (fun c => absurd c (by omega)) (fun _ => ?_)
    refine z_aload_n 1 dX5_init_26 rfl rfl ?_
    refine z_getR (r := n + 1) zfRX5_11 dX5_init_27 (z_apget hn) rfl ?_
    refine z_iload_n 0 dX5_init_30 rfl rfl ?_
    refine z_mk (k := 11) z_rwcX3 zcRX5_9 zlRX5_21 ⟨Nat.le_of_ble_eq_true rfl, Nat.le_of_ble_eq_true rfl⟩ dX5_init_31 dX5_init_34 dX5_init_35 hlen (by omega) (by omega) (z_lek rfl) hlo (z_lvL (by omega)) (z_svL (by omega)) ⟨by show 4 + 325 * k + 12 + 313 ≤ 654; omega, by show 4 + 325 * k + 12 + 313 ≤ 654; omega⟩ (fun hlo1 => ?_)
    have hv : (pre ++ .inl (5, [some (some (n + 1)), some (some (n + 2))]) :: .inr (.inr (z_arr 2 (n + 3) k)) :: .inr (.inl (1, 2)) :: z_pk (n + 3) k ++ z_pls (n + 3 + 11 * k))[n + 3 + 11 * k]? = some (.inl (3, _)) := z_apget hlen
    rw [z_zf_cat (by omega) (by omega), List.append_assoc, List.cons_append, List.cons_append]
    rw [List.append_assoc, List.cons_append, List.cons_append] at hv hlo1
    refine z_aast dX5_init_38 (z_apget2 hn) hv ⟨by omega, by rw [z_arr_len]; omega⟩ ?_
    rw [z_uE, z_apset2 hn, Int.toNat_natCast, z_arr_set (by omega)]
    refine z_iinc 0 dX5_init_39 rfl (by decide) rfl ⟨by omega, by omega⟩ ?_
    refine z_goto (tgt := 21) dX5_init_42 (by decide) ?_
    have hlo2 := z_cls_arr (rs' := z_arr 2 (n + 3) (k + 1)) hlo1 (fun o ho a ha => by
      have := z_arr_mem ho ha
      simp only [List.length_append, List.length_cons, z_pk_len, z_pls_len, hn]
      omega)
    have hi := ih (k + 1) (by omega) hlo2
    rw [show ((k + 1 : Nat) : Int) = (k : Int) + 1 by omega, show 4 + 325 * (k + 1) = 4 + 325 * k + 12 + 313 by omega, show n + 3 + 11 * (k + 1) = n + 3 + 11 * k + 11 by omega] at hi
    exact hi
theorem z_hss_len (n : Nat) : (z_hss n).length = 90 := by simp only [z_hss, List.length_cons, z_pk_len]
theorem z_sls_len (n : Nat) : (z_sls n).length = 25 := by simp only [z_sls, List.length_cons, z_pk_len]
theorem z_ctorX0 : z_ctor mX0_init 0 [some none, none, none] 90 z_hss := by
  intro pre n w Q hn hlt hlo h
  have hLv : z_lv (n + 1) [(0, z_r n)] := z_lv1 (by omega)
  refine z_aload_n 0 dX0_init_0 rfl rfl ?_
  refine z_objInit zORX0_3 z_oin z_oco ⟨Nat.le_of_ble_eq_true rfl, Nat.le_of_ble_eq_true rfl⟩ dX0_init_1 ?_
  refine z_aload_n 0 dX0_init_4 rfl rfl ?_
  refine z_bipush (n := 8) dX0_init_5 rfl (by constructor <;> decide) ?_
  have e : (pre ++ [(.inl (0, [some none, none, none]) : z_C)]).length = n + 1 := by simp [hn]
  refine z_newq (N := 8) zcRX0_9 (by decide) (by show (pre ++ [_]).length < 1000; omega) hlo (z_lv_le hLv (by show n + 1 ≤ (pre ++ [_]).length; omega)) (fun q hq => by
    rw [List.mem_singleton.mp hq]
    exact Or.inl (by show n < (pre ++ [_]).length; omega)) (by decide) ⟨by show 0 + 8 ≤ 2608; decide, by show 0 + 8 ≤ 2608; decide⟩ dX0_init_7 ?_
  rw [z_nwE e, show ((pre ++ [.inl (0, [some none, none, none])], w) : z_S).1.length = n + 1 from e, List.append_assoc, List.cons_append, List.nil_append]
  refine z_putR (k := 0) zoRX0_11 (fun _ => rfl) z_htq dX0_init_10 (z_apget hn) (by decide) ?_
  rw [z_uE, z_apset hn]
  have hlq : z_cls0 (pre ++ .inl (0, [some none, none, none]) :: [.inr (.inr (List.replicate 8 none))]) := by
    have e2 : (pre ++ .inl (0, [some none, none, none]) :: [(.inr (.inr (List.replicate 8 none)) : z_C)]) = (pre ++ [.inl (0, [some none, none, none])]) ++ [.inr (.inr (List.replicate 8 none))] := by simp
    rw [e2]
    unfold z_cls0
    rw [List.length_append]
    refine z_cl1_app hlo (fun c hc => ?_)
    rw [List.mem_singleton.mp hc]
    intro o ho a ha
    rw [(List.mem_replicate.mp ho).2] at ha
    cases ha
  have hls := z_cls_set (k := 0) (m := n + 1) hlq (by simp; omega)
  refine z_iconst (n := 0) dX0_init_13 (by constructor <;> decide) ?_
  refine z_istore_n dX0_init_14 rfl (by decide) rfl ?_
  rw [← z_arr_0 8 (n + 2)] at hls ⊢
  exact z_loopX0 hn hlt h 8 0 rfl hls
theorem z_rwcX0 : z_rwc mX0_init 0 RX0 3 [some none, none, none] 90 z_hss := ⟨z_ctorX0, ⟨TX0, tyX0, z_k0, rfl, by decide +kernel⟩, ziRX0, zIRX0, zmX0_init, znX0_init, rfl, rfl, z_lek rfl, z_lek rfl, z_lek rfl⟩
theorem z_ctorX5 : z_ctor mX5_init 5 [some none, some none] 25 z_sls := by
  intro pre n w Q hn hlt hlo h
  have hLv : z_lv (n + 1) [(0, z_r n)] := z_lv1 (by omega)
  refine z_aload_n 0 dX5_init_0 rfl rfl ?_
  refine z_objInit zORX5_3 z_oin z_oco ⟨Nat.le_of_ble_eq_true rfl, Nat.le_of_ble_eq_true rfl⟩ dX5_init_1 ?_
  refine z_aload_n 0 dX5_init_4 rfl rfl ?_
  refine z_iconst (n := 2) dX5_init_5 (by constructor <;> decide) ?_
  have e : (pre ++ [(.inl (5, [some none, some none]) : z_C)]).length = n + 1 := by simp [hn]
  refine z_newq (N := 2) zcRX5_9 (by decide) (by show (pre ++ [_]).length < 1000; omega) hlo (z_lv_le hLv (by show n + 1 ≤ (pre ++ [_]).length; omega)) (fun q hq => by
    rw [List.mem_singleton.mp hq]
    exact Or.inl (by show n < (pre ++ [_]).length; omega)) (by decide) ⟨by show 0 + 2 ≤ 654; decide, by show 0 + 2 ≤ 654; decide⟩ dX5_init_6 ?_
  rw [z_nwE e, show ((pre ++ [.inl (5, [some none, some none])], w) : z_S).1.length = n + 1 from e, List.append_assoc, List.cons_append, List.nil_append]
  refine z_putR (k := 0) zoRX5_11 (fun _ => rfl) z_htq dX5_init_9 (z_apget hn) (by decide) ?_
  rw [z_uE, z_apset hn]
  have hlq : z_cls0 (pre ++ .inl (5, [some none, some none]) :: [.inr (.inr (List.replicate 2 none))]) := by
    have e2 : (pre ++ .inl (5, [some none, some none]) :: [(.inr (.inr (List.replicate 2 none)) : z_C)]) = (pre ++ [.inl (5, [some none, some none])]) ++ [.inr (.inr (List.replicate 2 none))] := by simp
    rw [e2]
    unfold z_cls0
    rw [List.length_append]
    refine z_cl1_app hlo (fun c hc => ?_)
    rw [List.mem_singleton.mp hc]
    intro o ho a ha
    rw [(List.mem_replicate.mp ho).2] at ha
    cases ha
  have hls := z_cls_set (k := 0) (m := n + 1) hlq (by simp; omega)
  refine z_sA (N := 2) (kd := 1) (k := 1) hn (m := n + 1 + 1) rfl rfl dX5_init_12 (z_hp1 (n := 2) dX5_init_13 (by constructor <;> decide)) (Or.inr (Or.inl ⟨rfl, rfl⟩)) z_awz ⟨by decide, by decide⟩ dX5_init_14 zoRX5_17 rfl z_htz dX5_init_16 (Nat.le_of_ble_eq_true rfl) (by omega) ⟨by show 0 + 2 + 2 ≤ 654; decide, by show 0 + 2 + 2 ≤ 654; decide⟩ hLv hls (fun hls2 => ?_)
  refine z_iconst (n := 0) dX5_init_19 (by constructor <;> decide) ?_
  refine z_istore_n dX5_init_20 rfl (by decide) rfl ?_
  rw [← z_arr_0 2 (n + 3)] at hls2 ⊢
  exact z_loopX5 hn hlt h 2 0 rfl hls2
theorem z_rwcX5 : z_rwc mX5_init 5 RX5 2 [some none, some none] 25 z_sls := ⟨z_ctorX5, ⟨TX5, tyX5, z_k5, rfl, by decide +kernel⟩, ziRX5, zIRX5, zmX5_init, znX5_init, rfl, rfl, z_lek rfl, z_lek rfl, z_lek rfl⟩
