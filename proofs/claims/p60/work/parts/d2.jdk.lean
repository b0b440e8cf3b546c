/-! NUMBERS, CONSTRUCTORS, TOSTRING -/
section ZJDK3
variable {sh : List z_C} {w : z_Mm} {Q : Option z_V → z_S → Prop}
/-- how many digits: of numbers below 100 -/
theorem t_J6_stringSize {n : Int} (hn : 0 ≤ n ∧ n ≤ 99) (h : Q (some (z_i ((z_dl n).length : Int))) (sh, w)) : z_Sem mJ6_stringSize_0f7a4 (sh.length, 0) 0 [(0, z_i n)] [] (sh, w) Q := by
  refine z_iconst dJ6_stringSize_0f7a4_0 (by decide) ?_
  refine z_istore_n (L' := [(1, z_i 1), (0, z_i n)]) dJ6_stringSize_0f7a4_1 rfl (z_ltk rfl) rfl ?_
  refine z_iload_n 1 dJ6_stringSize_0f7a4_2 rfl rfl ?_
  refine z_if_lt (tgt := 11) dJ6_stringSize_0f7a4_3 (by decide) (fun c => absurd c (by omega)) (fun _ => ?_)
  refine z_iconst dJ6_stringSize_0f7a4_6 (by decide) ?_
  refine z_istore_n (L' := [(1, z_i 0), (0, z_i n)]) dJ6_stringSize_0f7a4_7 rfl (z_ltk rfl) rfl ?_
  refine z_iload_n 1 dJ6_stringSize_0f7a4_8 rfl rfl ?_
  refine z_ineg dJ6_stringSize_0f7a4_9 ⟨by omega, by omega⟩ ?_
  refine z_istore_n (L' := [(0, z_i (-n)), (1, z_i 0)]) dJ6_stringSize_0f7a4_10 rfl (z_ltk rfl) rfl ?_
  refine z_bipush dJ6_stringSize_0f7a4_11 (by decide) (by decide) ?_
  refine z_istore_n (L' := [(2, z_i (-10)), (0, z_i (-n)), (1, z_i 0)]) dJ6_stringSize_0f7a4_13 rfl (z_ltk rfl) rfl ?_
  refine z_iconst dJ6_stringSize_0f7a4_14 (by decide) ?_
  refine z_istore_n (L' := [(3, z_i 1), (2, z_i (-10)), (0, z_i (-n)), (1, z_i 0)]) dJ6_stringSize_0f7a4_15 rfl (z_ltk rfl) rfl ?_
  refine z_iload_n 0 dJ6_stringSize_0f7a4_16 rfl rfl ?_
  refine z_bipush dJ6_stringSize_0f7a4_17 (by decide) (by decide) ?_
  refine z_icmp_ge (tgt := 42) dJ6_stringSize_0f7a4_19 (by decide) (fun c => absurd c (by decide)) (fun _ => ?_)
  refine z_iload_n 2 dJ6_stringSize_0f7a4_22 rfl rfl ?_
  refine z_iload_n 1 dJ6_stringSize_0f7a4_23 rfl rfl ?_
  refine z_icmp_le (tgt := 31) dJ6_stringSize_0f7a4_24 (by decide) (fun c => ?_) (fun c => ?_)
  · have hd : ((z_dl n).length : Int) = 2 := by unfold z_dl; rw [if_neg (by omega), if_pos (by omega)]; rfl
    rw [hd] at h
    refine z_bipush dJ6_stringSize_0f7a4_31 (by decide) (by decide) ?_
    refine z_iload_n 1 dJ6_stringSize_0f7a4_33 rfl rfl ?_
    refine z_imul dJ6_stringSize_0f7a4_34 (by decide) ?_
    refine z_istore_n (L' := [(2, z_i (10 * -10)), (3, z_i 1), (0, z_i (-n)), (1, z_i 0)]) dJ6_stringSize_0f7a4_35 rfl (z_ltk rfl) rfl ?_
    refine z_iinc (L' := [(3, z_i (1 + 1)), (2, z_i (10 * -10)), (0, z_i (-n)), (1, z_i 0)]) 1 dJ6_stringSize_0f7a4_36 rfl (z_ltk rfl) rfl (by decide) ?_
    refine z_goto (tgt := 16) dJ6_stringSize_0f7a4_39 (by decide) ?_
    refine z_iload_n 0 dJ6_stringSize_0f7a4_16 rfl rfl ?_
    refine z_bipush dJ6_stringSize_0f7a4_17 (by decide) (by decide) ?_
    refine z_icmp_ge (tgt := 42) dJ6_stringSize_0f7a4_19 (by decide) (fun c => absurd c (by decide)) (fun _ => ?_)
    refine z_iload_n 2 dJ6_stringSize_0f7a4_22 rfl rfl ?_
    refine z_iload_n 1 dJ6_stringSize_0f7a4_23 rfl rfl ?_
    refine z_icmp_le (tgt := 31) dJ6_stringSize_0f7a4_24 (by decide) (fun c2 => absurd c2 (by omega)) (fun _ => ?_)
    refine z_iload_n 0 dJ6_stringSize_0f7a4_27 rfl rfl ?_
    refine z_iload_n 3 dJ6_stringSize_0f7a4_28 rfl rfl ?_
    refine z_iadd dJ6_stringSize_0f7a4_29 (by decide) ?_
    exact z_ret (v := some (z_i 2)) dJ6_stringSize_0f7a4_30 ⟨rfl, Or.inl rfl⟩ rfl h
  · have hd : ((z_dl n).length : Int) = 1 := by unfold z_dl; rw [if_pos (by omega)]; rfl
    rw [hd] at h
    refine z_iload_n 0 dJ6_stringSize_0f7a4_27 rfl rfl ?_
    refine z_iload_n 3 dJ6_stringSize_0f7a4_28 rfl rfl ?_
    refine z_iadd dJ6_stringSize_0f7a4_29 (by decide) ?_
    exact z_ret (v := some (z_i 1)) dJ6_stringSize_0f7a4_30 ⟨rfl, Or.inl rfl⟩ rfl h
/-- the digits into a row, ahead of p -/
theorem t_J6_getChars {n p : Int} {v m : Nat} (hn : 0 ≤ n ∧ n ≤ 99) (hv : sh[v]? = some (.inr (.inl (2, m)))) (hp : (z_dl n).length ≤ p ∧ p ≤ (m : Int)) (hm : m ≤ 100000)
    (h : ∀ y : Int, Q (some (z_i y)) (sh, z_put w v (p - (z_dl n).length) (z_dl n))) : z_Sem mJ6_getChars_ba4f3 (sh.length, 0) 0 [(0, z_i n), (1, z_i p), (2, z_r v)] [] (sh, w) Q := by
  refine z_iload_n 1 dJ6_getChars_ba4f3_0 rfl rfl ?_
  refine z_istore (L' := [(5, z_i p), (0, z_i n), (1, z_i p), (2, z_r v)]) dJ6_getChars_ba4f3_1 (z_ltk rfl) rfl ?_
  refine z_iload_n 1 dJ6_getChars_ba4f3_3 rfl rfl ?_
  refine z_if_ge (tgt := 11) dJ6_getChars_ba4f3_4 (by decide) (fun _ => ?_) (fun c => absurd hn.1 c)
  refine z_iconst dJ6_getChars_ba4f3_11 (by decide) ?_
  refine z_istore (L' := [(6, z_i 0), (5, z_i p), (0, z_i n), (1, z_i p), (2, z_r v)]) dJ6_getChars_ba4f3_12 (z_ltk rfl) rfl ?_
  refine z_iload 0 dJ6_getChars_ba4f3_14 rfl ?_
  refine z_if_ne (tgt := 22) dJ6_getChars_ba4f3_16 (by decide) (fun c => absurd rfl c) (fun _ => ?_)
  refine z_iload_n 2 dJ6_getChars_ba4f3_19 rfl rfl ?_
  refine z_ineg dJ6_getChars_ba4f3_20 ⟨by omega, by omega⟩ ?_
  refine z_istore_n (L' := [(0, z_i (-n)), (6, z_i 0), (5, z_i p), (1, z_i p), (2, z_r v)]) dJ6_getChars_ba4f3_21 rfl (z_ltk rfl) rfl ?_
  refine z_iload_n 0 dJ6_getChars_ba4f3_22 rfl rfl ?_
  refine z_bipush dJ6_getChars_ba4f3_23 (by decide) (by decide) ?_
  refine z_icmp_gt (tgt := 72) dJ6_getChars_ba4f3_25 (by decide) (fun _ => ?_) (fun c => absurd (by omega : (-100 : Int) < -n) c)
  refine z_aload_n 4 dJ6_getChars_ba4f3_72 rfl rfl ?_
  have hl1 : 1 ≤ ((z_dl n).length : Int) := by
    unfold z_dl
    split
    · show (1 : Int) ≤ ((1 : Nat) : Int); omega
    · split
      · show (1 : Int) ≤ ((2 : Nat) : Int); omega
      · show (1 : Int) ≤ ((3 : Nat) : Int); omega
  refine z_iinc (L' := [(5, z_i (p + -1)), (0, z_i (-n)), (6, z_i 0), (1, z_i p), (2, z_r v)]) 2 dJ6_getChars_ba4f3_73 rfl (z_ltk rfl) rfl ⟨by omega, by omega⟩ ?_
  refine z_iload 0 dJ6_getChars_ba4f3_76 rfl ?_
  refine z_getDO zgRJ6_83 dJ6_getChars_ba4f3_78 ?_
  refine z_iload_n 1 dJ6_getChars_ba4f3_81 rfl rfl ?_
  refine z_ineg dJ6_getChars_ba4f3_82 ⟨by omega, by omega⟩ ?_
  rw [show (- -n : Int) = n by omega]
  refine z_ald1 dJ6_getChars_ba4f3_83 ⟨hn.1, by omega⟩ ?_
  refine z_bast dJ6_getChars_ba4f3_84 hv ⟨by omega, by omega⟩ (z_b128' ⟨by omega, by omega⟩) ?_
  refine z_genw (fun w1 hw1 => ?_)
  refine z_iload_n 1 dJ6_getChars_ba4f3_85 rfl rfl ?_
  refine z_bipush dJ6_getChars_ba4f3_86 (by decide) (by decide) ?_
  refine z_icmp_ge (tgt := 104) dJ6_getChars_ba4f3_88 (by decide) (fun c => ?_) (fun c => ?_)
  · refine z_iload 2 dJ6_getChars_ba4f3_104 rfl ?_
    refine z_if_eq (tgt := 118) dJ6_getChars_ba4f3_106 (by decide) (fun _ => ?_) (fun c => absurd rfl c)
    refine z_iload 0 dJ6_getChars_ba4f3_118 rfl ?_
    refine z_eqw (sh' := sh) (w' := z_put w v (p - (z_dl n).length) (z_dl n)) rfl ?_ (z_ret (v := some (z_i (p + -1))) dJ6_getChars_ba4f3_120 ⟨rfl, Or.inl rfl⟩ rfl (h _))
    have hd : z_dl n = [48 + n] := by unfold z_dl; rw [if_pos (by omega)]
    rw [hd, hw1]
    funext b j
    show (if b = v ∧ p - (1 : Nat) ≤ j ∧ j < p - (1 : Nat) + (1 : Nat) then _ else _) = if b = v ∧ j = p + -1 then 48 + n % 10 else w b j
    by_cases hc : b = v ∧ j = p + -1
    · rw [if_pos hc, if_pos ⟨hc.1, by omega, by omega⟩, (show (j - (p - (([48 + n].length : Nat) : Int))).toNat = 0 from (show (j - (p - ((1 : Nat) : Int))).toNat = 0 by omega))]
      show 48 + n = _
      omega
    · rw [if_neg hc, if_neg (fun q => hc ⟨q.1, by omega⟩)]
  · have hd : z_dl n = [48 + n / 10, 48 + n % 10] := by unfold z_dl; rw [if_neg (by omega), if_pos (by omega)]
    have hl2 : ((z_dl n).length : Int) = 2 := by rw [hd]; rfl
    refine z_aload_n 4 dJ6_getChars_ba4f3_91 rfl rfl ?_
    refine z_iinc (L' := [(5, z_i (p + -1 + -1)), (0, z_i (-n)), (6, z_i 0), (1, z_i p), (2, z_r v)]) 0 dJ6_getChars_ba4f3_92 rfl (z_ltk rfl) rfl ⟨by omega, by omega⟩ ?_
    refine z_iload 0 dJ6_getChars_ba4f3_95 rfl ?_
    refine z_getDT zgRJ6_87 dJ6_getChars_ba4f3_97 ?_
    refine z_iload_n 1 dJ6_getChars_ba4f3_100 rfl rfl ?_
    refine z_ineg dJ6_getChars_ba4f3_101 ⟨by omega, by omega⟩ ?_
    rw [show (- -n : Int) = n by omega]
    refine z_ald2 dJ6_getChars_ba4f3_102 ⟨hn.1, by omega⟩ ?_
    refine z_bast dJ6_getChars_ba4f3_103 hv ⟨by omega, by omega⟩ (z_b128' ⟨by omega, by omega⟩) ?_
    refine z_genw (fun w2 hw2 => ?_)
    refine z_iload 2 dJ6_getChars_ba4f3_104 rfl ?_
    refine z_if_eq (tgt := 118) dJ6_getChars_ba4f3_106 (by decide) (fun _ => ?_) (fun c => absurd rfl c)
    refine z_iload 0 dJ6_getChars_ba4f3_118 rfl ?_
    refine z_eqw (sh' := sh) (w' := z_put w v (p - (z_dl n).length) (z_dl n)) rfl ?_ (z_ret (v := some (z_i (p + -1 + -1))) dJ6_getChars_ba4f3_120 ⟨rfl, Or.inl rfl⟩ rfl (h _))
    rw [hd, hw2, hw1]
    funext b j
    show (if b = v ∧ p - (2 : Nat) ≤ j ∧ j < p - (2 : Nat) + (2 : Nat) then _ else _) = if b = v ∧ j = p + -1 + -1 then 48 + n / 10 else if b = v ∧ j = p + -1 then 48 + n % 10 else w b j
    by_cases hc : b = v ∧ j = p + -1 + -1
    · rw [if_pos hc, if_pos ⟨hc.1, by omega, by omega⟩, (show (j - (p - (([48 + n / 10, 48 + n % 10].length : Nat) : Int))).toNat = 0 from (show (j - (p - ((2 : Nat) : Int))).toNat = 0 by omega))]
      rfl
    · rw [if_neg hc]
      by_cases hc2 : b = v ∧ j = p + -1
      · rw [if_pos hc2, if_pos ⟨hc2.1, by omega, by omega⟩, (show (j - (p - (([48 + n / 10, 48 + n % 10].length : Nat) : Int))).toNat = 1 from (show (j - (p - ((2 : Nat) : Int))).toNat = 1 by omega))]
        rfl
      · rw [if_neg hc2, if_neg (fun q => by
          by_cases e : j = p + -1
          · exact hc2 ⟨q.1, e⟩
          · exact hc ⟨q.1, by omega⟩)]
/-- append(int), of numbers below 100 -/
theorem t_J5_appendI {a v m k : Nat} {n c : Int} (hs : z_isSb sh a v m) (h1 : w a 1 = 0) (h3 : w a 3 = n) (hn : 0 ≤ n ∧ n ≤ m) (hc : 0 ≤ c ∧ c ≤ 99) (hm : m ≤ 20000) (hk1 : 1 ≤ k) (hk : (m : Int) < n + (z_dl c).length → (m : Int) + max (n + (z_dl c).length - m) (m + 2) ≤ k) (hsl : sh.length < 1000) (hlo : z_cls0 sh) (hb : ∀ j : Int, 0 ≤ j → j < m → 0 ≤ w v j ∧ w v j < 128)
    (h : ∀ (sh' : List z_C) (w' : z_Mm) (v' m' : Nat), z_gr sh w a v m (n + (z_dl c).length) sh' w' v' m' → Q (some (z_r a)) (sh', z_W (z_put w' v' n (z_dl c)) a 3 (n + (z_dl c).length))) : z_Sem (mJ5_append_c97b9 k) (sh.length, 0) 0 [(0, z_r a), (1, z_i c)] [] (sh, w) Q := by
  have hal := z_ltat hs.1
  have hl3 := z_dl_len c
  refine z_aload_n 0 dJ5_append_c97b9_0 rfl rfl ?_
  refine z_getI (ki := 3) zfRJ5_79 dJ5_append_c97b9_1 hs.1 rfl rfl ?_
  show z_Sem (mJ5_append_c97b9 k) (sh.length, 0) 4 [(0, z_r a), (1, z_i c)] [z_i (w a 3)] (sh, w) Q
  rw [h3]
  refine z_istore_n (L' := [(2, z_i n), (0, z_r a), (1, z_i c)]) dJ5_append_c97b9_4 rfl (z_ltk rfl) rfl ?_
  refine z_iload_n 0 dJ5_append_c97b9_5 rfl rfl ?_
  refine z_iload_n 2 dJ5_append_c97b9_6 rfl rfl ?_
  refine z_callS (As := [z_i c]) (rest := [z_i n]) zmJ6_stringSize_0f7a4 ztJ6_stringSize_0f7a4 zlRJ5_245 ⟨Nat.le_of_ble_eq_true rfl, Nat.le_of_ble_eq_true rfl⟩ dJ5_append_c97b9_7 rfl rfl (z_ai z_a0) (Nat.le_of_ble_eq_true rfl) (Nat.le_of_ble_eq_true rfl) ⟨rfl, rfl⟩ ?_
  refine t_J6_stringSize hc ?_
  show z_Sem (mJ5_append_c97b9 k) (sh.length, 0) 10 [(2, z_i n), (0, z_r a), (1, z_i c)] [z_i ((z_dl c).length : Int), z_i n] (sh, w) Q
  refine z_iadd dJ5_append_c97b9_10 ⟨by omega, by omega⟩ ?_
  refine z_istore_n (L' := [(3, z_i (n + (z_dl c).length)), (2, z_i n), (0, z_r a), (1, z_i c)]) dJ5_append_c97b9_11 rfl (z_ltk rfl) rfl ?_
  refine z_aload_n 2 dJ5_append_c97b9_12 rfl rfl ?_
  refine z_iload_n 0 dJ5_append_c97b9_13 rfl rfl ?_
  refine z_ensure rfl hs h1 (by omega) ⟨by omega, by omega⟩ hk1 hk hsl hlo hb (fun q hq => ?_) ⟨rfl, rfl⟩ ⟨Nat.le_of_ble_eq_true rfl, Nat.le_of_ble_eq_true rfl⟩ dJ5_append_c97b9_14 (fun sh' w' v' m' hg => ?_)
  · simp only [List.mem_cons, List.not_mem_nil, or_false] at hq
    rcases hq with rfl | rfl | rfl | rfl
    · exact True.intro
    · exact True.intro
    · exact Or.inl hal
    · exact True.intro
  obtain ⟨hs', hq', hwa, hav⟩ := hg.sb hs
  have h1' : w' a 1 = 0 := by rw [hwa]; exact h1
  have hm' : m' ≤ 100000 := by
    rcases hg with ⟨-, -, -, rfl, -⟩ | ⟨-, -, -, h4, -⟩ <;> omega
  show z_Sem (mJ5_append_c97b9 k) (sh.length, k) 17 [(3, z_i (n + (z_dl c).length)), (2, z_i n), (0, z_r a), (1, z_i c)] [] (sh', w') Q
  refine z_aload_n 2 dJ5_append_c97b9_17 rfl rfl ?_
  refine z_callV (As := []) (rest := []) zmJ5_isLatin1_aae02 znJ5_isLatin1_aae02 zsJ5_isLatin1_aae02 z_cl10 zlRJ5_83 ⟨Nat.le_of_ble_eq_true rfl, Nat.le_of_ble_eq_true rfl⟩ dJ5_append_c97b9_18 hs'.1 rfl rfl z_a0 (Nat.le_of_ble_eq_true rfl) (Nat.le_of_ble_eq_true rfl) ⟨rfl, rfl⟩ ?_
  refine t_J5_isLatin1 hs' h1' ?_
  show z_Sem (mJ5_append_c97b9 k) (sh.length, k) 21 [(3, z_i (n + (z_dl c).length)), (2, z_i n), (0, z_r a), (1, z_i c)] [z_i 1] (sh', w') Q
  refine z_if_eq (tgt := 37) dJ5_append_c97b9_21 (by decide) (fun c => absurd c (by decide)) (fun _ => ?_)
  refine z_iload_n 3 dJ5_append_c97b9_24 rfl rfl ?_
  refine z_iload_n 0 dJ5_append_c97b9_25 rfl rfl ?_
  refine z_aload_n 2 dJ5_append_c97b9_26 rfl rfl ?_
  refine z_getR (r := v') zfRJ5_15 dJ5_append_c97b9_27 hs'.1 rfl ?_
  refine z_callS (As := [z_i c, z_i (n + (z_dl c).length), z_r v']) (rest := []) zmJ6_getChars_ba4f3 ztJ6_getChars_ba4f3 zlRJ5_248 ⟨Nat.le_of_ble_eq_true rfl, Nat.le_of_ble_eq_true rfl⟩ dJ5_append_c97b9_30 rfl rfl (z_ai (z_ai (z_ar z_a0))) (Nat.le_of_ble_eq_true rfl) (Nat.le_of_ble_eq_true rfl) ⟨rfl, rfl⟩ ?_
  refine t_J6_getChars hc hs'.2 ⟨by omega, hq'⟩ hm' (fun y => ?_)
  rw [show n + ((z_dl c).length : Int) - ((z_dl c).length : Int) = n by omega]
  show z_Sem (mJ5_append_c97b9 k) (sh.length, k) 33 [(3, z_i (n + (z_dl c).length)), (2, z_i n), (0, z_r a), (1, z_i c)] [z_i y] (sh', z_put w' v' n (z_dl c)) Q
  refine z_pop dJ5_append_c97b9_33 rfl ?_
  refine z_goto (tgt := 48) dJ5_append_c97b9_34 (by decide) ?_
  refine z_aload_n 2 dJ5_append_c97b9_48 rfl rfl ?_
  refine z_iload_n 0 dJ5_append_c97b9_49 rfl rfl ?_
  refine z_putI (ki := 3) zfRJ5_79 dJ5_append_c97b9_50 hs'.1 rfl rfl ?_
  refine z_genw (fun w2 hw2 => ?_)
  refine z_aload_n 2 dJ5_append_c97b9_53 rfl rfl ?_
  subst hw2
  exact z_ret (v := some (z_r a)) dJ5_append_c97b9_54 ⟨rfl, _, rfl, Or.inl ⟨_, rfl⟩⟩ rfl (h sh' w' v' m' hg)
theorem t_J4_appendI {a v m k : Nat} {n c : Int} (hs : z_isSb sh a v m) (h1 : w a 1 = 0) (h3 : w a 3 = n) (hn : 0 ≤ n ∧ n ≤ m) (hc : 0 ≤ c ∧ c ≤ 99) (hm : m ≤ 20000) (hk1 : 1 ≤ k) (hk : (m : Int) < n + (z_dl c).length → (m : Int) + max (n + (z_dl c).length - m) (m + 2) ≤ k) (hsl : sh.length < 1000) (hlo : z_cls0 sh) (hb : ∀ j : Int, 0 ≤ j → j < m → 0 ≤ w v j ∧ w v j < 128)
    (h : ∀ (sh' : List z_C) (w' : z_Mm) (v' m' : Nat), z_gr sh w a v m (n + (z_dl c).length) sh' w' v' m' → Q (some (z_r a)) (sh', z_W (z_put w' v' n (z_dl c)) a 3 (n + (z_dl c).length))) : z_Sem (mJ4_append_bf812 k) (sh.length, 0) 0 [(0, z_r a), (1, z_i c)] [] (sh, w) Q := by
  have hal := z_ltat hs.1
  refine z_aload_n 0 dJ4_append_bf812_0 rfl rfl ?_
  refine z_iload_n 1 dJ4_append_bf812_1 rfl rfl ?_
  refine z_callA (M' := mJ5_append_c97b9 k) (vs := [z_r a, z_i c]) (rest := []) (z_invSU (C := RJ4) (As := [z_i c]) z_cl10 zmJ5_append_c97b9 znJ5_append_c97b9 zqJ5_append_c97b9 zuRJ4 (show yJ5_append_3fe6f.name ≠ "<init>" by decide) zlRJ4_53' ⟨Nat.le_of_ble_eq_true rfl, Nat.le_of_ble_eq_true rfl⟩ dJ4_append_bf812_2 rfl) zwJ5_append_c97b9.2.2.2.2 (fun G p s m args meth c H locs hX hP => z_recC (σ := (sh, w)) z_cl10 hs.1 hX hP) rfl (z_ar (z_ai z_a0)) (Nat.le_of_ble_eq_true rfl) (Nat.le_of_ble_eq_true rfl) (z_lv2 hal) (fun q hq => by cases hq) (Nat.le_refl _) (by show k ≠ 0; omega) (by show 0 + k ≤ k ∧ 0 + k ≤ k; omega) ?_
  refine t_J5_appendI hs h1 h3 hn hc hm hk1 hk hsl hlo hb (fun sh' w' v' m' hg => ?_)
  show z_Sem (mJ4_append_bf812 k) (sh.length, 0 + k) 5 [(0, z_r a), (1, z_i c)] [z_r a] (sh', z_W (z_put w' v' n (z_dl c)) a 3 (n + (z_dl c).length)) Q
  refine z_pop dJ4_append_bf812_5 rfl ?_
  refine z_aload_n 0 dJ4_append_bf812_6 rfl rfl ?_
  exact z_ret (v := some (z_r a)) dJ4_append_bf812_7 ⟨rfl, _, rfl, Or.inl ⟨_, rfl⟩⟩ rfl (h sh' w' v' m' hg)
end ZJDK3
