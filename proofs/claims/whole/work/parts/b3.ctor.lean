theorem z_apget2 {pre l : List z_C} {n : Nat} {x y : z_C} (hn : pre.length = n) : (pre ++ x :: y :: l)[n + 1]? = some y := by
  subst hn
  simp
theorem z_apset2 {pre l : List z_C} {n : Nat} {x y c : z_C} (hn : pre.length = n) : (pre ++ x :: y :: l).set (n + 1) c = pre ++ x :: c :: l := by
  subst hn
  rw [List.set_append_right _ _ (by omega), show pre.length + 1 - pre.length = 1 by omega]
  rfl
/-- k plans, one behind the other -/
def z_pk (m : Nat) : Nat → List z_C
  | 0 => []
  | k + 1 => z_pk m k ++ z_pls (m + 11 * k)
theorem z_pk_len (m : Nat) : ∀ k : Nat, (z_pk m k).length = 11 * k
  | 0 => rfl
  | k + 1 => by
    simp only [z_pk, List.length_append, z_pk_len m k, z_pls_len]
    omega
def z_arr (K b k : Nat) : List (Option Nat) := (List.range K).map (fun j => if j < k then some (b + 11 * j) else none)
theorem z_arr_len (K b k : Nat) : (z_arr K b k).length = K := by simp [z_arr]
theorem z_arr_0 (K b : Nat) : z_arr K b 0 = List.replicate K none := by
  apply List.ext_getElem?
  intro i
  simp only [z_arr, List.getElem?_map, List.getElem?_replicate]
  by_cases h : i < K
  · rw [List.getElem?_range h, if_pos h]; simp
  · rw [List.getElem?_eq_none (by simp; omega), if_neg h]; rfl
theorem z_arr_set {K b k : Nat} (h : k < K) : (z_arr K b k).set k (some (b + 11 * k)) = z_arr K b (k + 1) := by
  apply List.ext_getElem?
  intro i
  by_cases e : i = k
  · subst e
    rw [List.getElem?_set_self (by rw [z_arr_len]; exact h)]
    simp [z_arr, h]
  · rw [List.getElem?_set_ne (Ne.symm e)]
    simp only [z_arr, List.getElem?_map]
    by_cases hi : i < K
    · rw [List.getElem?_range hi]
      simp only [Option.map_some]
      congr 1
      by_cases c : i < k
      · rw [if_pos c, if_pos (by omega)]
      · rw [if_neg c, if_neg (by omega)]
    · rw [List.getElem?_eq_none (by simp; omega)]; rfl
theorem z_arr_K (K b : Nat) : z_arr K b K = (List.range K).map (fun j => some (b + 11 * j)) := by
  unfold z_arr
  apply List.map_congr_left
  intro j hj
  rw [if_pos (List.mem_range.mp hj)]
theorem z_htq : ∀ b, narrow (.array (.object "TimeGaps$Plan")) (.ref b) = .ref b ∧ fits (.array (.object "TimeGaps$Plan")) (.ref b) = true := fun _ => ⟨rfl, rfl⟩
def z_hss (n : Nat) : List z_C := .inl (0, [some (some (n + 1)), none, none]) :: .inr (.inr ((List.range 8).map (fun j => some (n + 2 + 11 * j)))) :: z_pk (n + 2) 8
theorem z_loopX0 {pre : List z_C} {n : Nat} {w : z_Mm} {Q : Option z_V → z_S → Prop} (hn : pre.length = n) (hlt : n + 90 ≤ 1000) (h : Q none (pre ++ z_hss n, z_zf w (n + 1) (n + 90))) : ∀ (d k : Nat), k + d = 8 → z_Sem mX0_init (n + 1, 8 + 325 * k) 15 [(1, z_i (k : Int)), (0, z_r n)] [] (pre ++ .inl (0, [some (some (n + 1)), none, none]) :: .inr (.inr (z_arr 8 (n + 2) k)) :: z_pk (n + 2) k, z_zf w (n + 1) (n + 2 + 11 * k)) Q := by
  intro d
  induction d with
  | zero =>
    intro k hk
    obtain rfl : k = 8 := by omega
    refine z_iload_n 0 dX0_init_15 rfl rfl ?_
    refine z_bipush (n := 8) dX0_init_16 rfl (by constructor <;> decide) ?_
    refine z_icmp_ge (tgt := 40) dX0_init_18 (by decide) (fun _ => ?_) (fun c => absurd (by decide) c)
    refine z_ret (v := none) dX0_init_40 ⟨rfl, rfl⟩ ?_ rfl ?_
    · show (pre ++ _).length = n + 1 + 89
      simp only [List.length_append, List.length_cons, z_pk_len, hn]
    · rw [z_arr_K]
      exact h
  | succ d ih =>
    intro k hk
    have hlen : (pre ++ .inl (0, [some (some (n + 1)), none, none]) :: .inr (.inr (z_arr 8 (n + 2) k)) :: z_pk (n + 2) k).length = n + 2 + 11 * k := by
      simp only [List.length_append, List.length_cons, z_pk_len, hn]
      omega
    refine z_iload_n 0 dX0_init_15 rfl rfl ?_
    refine z_bipush (n := 8) dX0_init_16 rfl (by constructor <;> decide) ?_
    refine z_icmp_ge (tgt := 40) dX0_init_18 (by decide) (fun c => absurd c (by omega)) (fun _ => ?_)
    refine z_aload_n 1 dX0_init_21 rfl rfl ?_
    refine z_getR (r := n + 1) zfRX0_11 dX0_init_22 (z_apget hn) rfl ?_
    refine z_iload_n 0 dX0_init_25 rfl rfl ?_
    refine z_mk (k := 11) z_rwcX3 z_clX0_9 zlRX0_17 ⟨Nat.le_of_ble_eq_true rfl, Nat.le_of_ble_eq_true rfl⟩ dX0_init_26 dX0_init_29 dX0_init_30 hlen (by omega) (by omega) (Nat.le_of_ble_eq_true rfl) ⟨by show _ ≤ n + 1 + 89; omega, by show 8 + 325 * k + 12 + 313 ≤ 2608; omega⟩ ?_
    have hv : (pre ++ .inl (0, [some (some (n + 1)), none, none]) :: .inr (.inr (z_arr 8 (n + 2) k)) :: z_pk (n + 2) k ++ z_pls (n + 2 + 11 * k))[n + 2 + 11 * k]? = some (.inl (3, _)) := z_apget hlen
    rw [z_zf_cat (by omega) (by omega), List.append_assoc, List.cons_append, List.cons_append]
    rw [List.append_assoc, List.cons_append, List.cons_append] at hv
    refine z_aast dX0_init_33 (z_apget2 hn) hv ⟨by omega, by rw [z_arr_len]; omega⟩ ?_
    rw [z_uE, z_apset2 hn, Int.toNat_natCast, z_arr_set (by omega)]
    refine z_iinc 0 dX0_init_34 rfl (by decide) rfl ⟨by omega, by omega⟩ ?_
    refine z_goto (tgt := 15) dX0_init_37 (by decide) ?_
    have hi := ih (k + 1) (by omega)
    rw [show ((k + 1 : Nat) : Int) = (k : Int) + 1 by omega, show 8 + 325 * (k + 1) = 8 + 325 * k + 12 + 313 by omega, show n + 2 + 11 * (k + 1) = n + 2 + 11 * k + 11 by omega] at hi
    exact hi
def z_sls (n : Nat) : List z_C := .inl (5, [some (some (n + 1)), some (some (n + 2))]) :: .inr (.inr ((List.range 2).map (fun j => some (n + 3 + 11 * j)))) :: .inr (.inl (1, 2)) :: z_pk (n + 3) 2
theorem z_loopX5 {pre : List z_C} {n : Nat} {w : z_Mm} {Q : Option z_V → z_S → Prop} (hn : pre.length = n) (hlt : n + 25 ≤ 1000) (h : Q none (pre ++ z_sls n, z_zf w (n + 1) (n + 25))) : ∀ (d k : Nat), k + d = 2 → z_Sem mX5_init (n + 1, 4 + 325 * k) 21 [(1, z_i (k : Int)), (0, z_r n)] [] (pre ++ .inl (5, [some (some (n + 1)), some (some (n + 2))]) :: .inr (.inr (z_arr 2 (n + 3) k)) :: .inr (.inl (1, 2)) :: z_pk (n + 3) k, z_zf w (n + 1) (n + 3 + 11 * k)) Q := by
  intro d
  induction d with
  | zero =>
    intro k hk
    obtain rfl : k = 2 := by omega
    refine z_iload_n 0 dX5_init_21 rfl rfl ?_
    refine z_iconst (n := 2) dX5_init_22 (by constructor <;> decide) ?_
    refine z_icmp_ge (tgt := 45) dX5_init_23 (by decide) (fun _ => ?_) (fun c => absurd (by decide) c)
    refine z_ret (v := none) dX5_init_45 ⟨rfl, rfl⟩ ?_ rfl ?_
    · show (pre ++ _).length = n + 1 + 24
      simp only [List.length_append, List.length_cons, z_pk_len, hn]
    · rw [z_arr_K]
      exact h
  | succ d ih =>
    intro k hk
    have hlen : (pre ++ .inl (5, [some (some (n + 1)), some (some (n + 2))]) :: .inr (.inr (z_arr 2 (n + 3) k)) :: .inr (.inl (1, 2)) :: z_pk (n + 3) k).length = n + 3 + 11 * k := by
      simp only [List.length_append, List.length_cons, z_pk_len, hn]
      omega
    refine z_iload_n 0 dX5_init_21 rfl rfl ?_
    refine z_iconst (n := 2) dX5_init_22 (by constructor <;> decide) ?_
    refine z_icmp_ge (tgt := 45) dX5_init_23 (by decide) (fun c => absurd c (by omega)) (fun _ => ?_)
    refine z_aload_n 1 dX5_init_26 rfl rfl ?_
    refine z_getR (r := n + 1) zfRX5_11 dX5_init_27 (z_apget hn) rfl ?_
    refine z_iload_n 0 dX5_init_30 rfl rfl ?_
    refine z_mk (k := 11) z_rwcX3 z_clX5_9 zlRX5_21 ⟨Nat.le_of_ble_eq_true rfl, Nat.le_of_ble_eq_true rfl⟩ dX5_init_31 dX5_init_34 dX5_init_35 hlen (by omega) (by omega) (Nat.le_of_ble_eq_true rfl) ⟨by show _ ≤ n + 1 + 24; omega, by show 4 + 325 * k + 12 + 313 ≤ 654; omega⟩ ?_
    have hv : (pre ++ .inl (5, [some (some (n + 1)), some (some (n + 2))]) :: .inr (.inr (z_arr 2 (n + 3) k)) :: .inr (.inl (1, 2)) :: z_pk (n + 3) k ++ z_pls (n + 3 + 11 * k))[n + 3 + 11 * k]? = some (.inl (3, _)) := z_apget hlen
    rw [z_zf_cat (by omega) (by omega), List.append_assoc, List.cons_append, List.cons_append]
    rw [List.append_assoc, List.cons_append, List.cons_append] at hv
    refine z_aast dX5_init_38 (z_apget2 hn) hv ⟨by omega, by rw [z_arr_len]; omega⟩ ?_
    rw [z_uE, z_apset2 hn, Int.toNat_natCast, z_arr_set (by omega)]
    refine z_iinc 0 dX5_init_39 rfl (by decide) rfl ⟨by omega, by omega⟩ ?_
    refine z_goto (tgt := 21) dX5_init_42 (by decide) ?_
    have hi := ih (k + 1) (by omega)
    rw [show ((k + 1 : Nat) : Int) = (k : Int) + 1 by omega, show 4 + 325 * (k + 1) = 4 + 325 * k + 12 + 313 by omega, show n + 3 + 11 * (k + 1) = n + 3 + 11 * k + 11 by omega] at hi
    exact hi
theorem z_hss_len (n : Nat) : (z_hss n).length = 90 := by simp only [z_hss, List.length_cons, z_pk_len]
theorem z_sls_len (n : Nat) : (z_sls n).length = 25 := by simp only [z_sls, List.length_cons, z_pk_len]
theorem z_ctorX0 : z_ctor mX0_init 0 [some none, none, none] 90 z_hss := by
  intro pre n w Q hn hlt h
  refine z_aload_n 0 dX0_init_0 rfl rfl ?_
  refine z_objInit (z_w1 331 (by decide +kernel) (by decide +kernel)) z_oin z_oco ⟨Nat.le_of_ble_eq_true rfl, Nat.le_of_ble_eq_true rfl⟩ dX0_init_1 ?_
  refine z_aload_n 0 dX0_init_4 rfl rfl ?_
  refine z_bipush (n := 8) dX0_init_5 rfl (by constructor <;> decide) ?_
  have e : (pre ++ [(.inl (0, [some none, none, none]) : z_C)]).length = n + 1 := by simp [hn]
  refine z_newq (N := 8) z_clX0_9 (by decide) (by show (pre ++ [_]).length < 1000; omega) ⟨by show (pre ++ [_]).length + 1 ≤ n + 1 + 89; omega, by show 0 + 8 ≤ 2608; decide⟩ dX0_init_7 ?_
  rw [z_nwE e, show ((pre ++ [.inl (0, [some none, none, none])], w) : z_S).1.length = n + 1 from e, List.append_assoc, List.cons_append, List.nil_append]
  refine z_putR (k := 0) zoRX0_11 rfl z_htq dX0_init_10 (z_apget hn) (by decide) ?_
  rw [z_uE, z_apset hn]
  refine z_iconst (n := 0) dX0_init_13 (by constructor <;> decide) ?_
  refine z_istore_n dX0_init_14 rfl (by decide) rfl ?_
  rw [← z_arr_0 8 (n + 2)]
  exact z_loopX0 hn hlt h 8 0 rfl
theorem z_rwcX0 : z_rwc mX0_init 0 RX0 3 [some none, none, none] 90 z_hss := ⟨z_ctorX0, ⟨TX0, tyX0, z_k0, rfl, by decide +kernel⟩, (z_w1 327 (by decide +kernel) (by decide +kernel)), (z_w1 181 (by decide +kernel) (by decide +kernel)), zmX0_init, znX0_init, rfl, rfl, Nat.le_of_ble_eq_true rfl, rfl⟩
theorem z_ctorX5 : z_ctor mX5_init 5 [some none, some none] 25 z_sls := by
  intro pre n w Q hn hlt h
  refine z_aload_n 0 dX5_init_0 rfl rfl ?_
  refine z_objInit (z_w1 351 (by decide +kernel) (by decide +kernel)) z_oin z_oco ⟨Nat.le_of_ble_eq_true rfl, Nat.le_of_ble_eq_true rfl⟩ dX5_init_1 ?_
  refine z_aload_n 0 dX5_init_4 rfl rfl ?_
  refine z_iconst (n := 2) dX5_init_5 (by constructor <;> decide) ?_
  have e : (pre ++ [(.inl (5, [some none, some none]) : z_C)]).length = n + 1 := by simp [hn]
  refine z_newq (N := 2) z_clX5_9 (by decide) (by show (pre ++ [_]).length < 1000; omega) ⟨by show (pre ++ [_]).length + 1 ≤ n + 1 + 24; omega, by show 0 + 2 ≤ 654; decide⟩ dX5_init_6 ?_
  rw [z_nwE e, show ((pre ++ [.inl (5, [some none, some none])], w) : z_S).1.length = n + 1 from e, List.append_assoc, List.cons_append, List.nil_append]
  refine z_putR (k := 0) zoRX5_11 rfl z_htq dX5_init_9 (z_apget hn) (by decide) ?_
  rw [z_uE, z_apset hn]
  refine z_sA (N := 2) (kd := 1) (k := 1) hn (m := n + 1 + 1) rfl rfl dX5_init_12 (z_hp1 (n := 2) dX5_init_13 (by constructor <;> decide)) (Or.inr (Or.inl ⟨rfl, rfl⟩)) z_awz (by decide) dX5_init_14 zoRX5_17 rfl z_htz dX5_init_16 (Nat.le_of_ble_eq_true rfl) (by omega) ⟨by show _ ≤ n + 1 + 24; omega, by show 0 + 2 + 2 ≤ 654; decide⟩ ?_
  refine z_iconst (n := 0) dX5_init_19 (by constructor <;> decide) ?_
  refine z_istore_n dX5_init_20 rfl (by decide) rfl ?_
  rw [← z_arr_0 2 (n + 3)]
  exact z_loopX5 hn hlt h 2 0 rfl
theorem z_rwcX5 : z_rwc mX5_init 5 RX5 2 [some none, some none] 25 z_sls := ⟨z_ctorX5, ⟨TX5, tyX5, z_k5, rfl, by decide +kernel⟩, (z_w1 347 (by decide +kernel) (by decide +kernel)), (z_w1 182 (by decide +kernel) (by decide +kernel)), zmX5_init, znX5_init, rfl, rfl, Nat.le_of_ble_eq_true rfl, rfl⟩
