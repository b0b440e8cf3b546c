/-! TOSTRING -/
theorem z_astore {M : z_M} {nz : Nat × Nat} {pc : Nat} {L : List (Nat × z_V)} {st : List z_V} {σ : z_S} {Q : Option z_V → z_S → Prop} {i : Nat} {x : Nat} {L' : List (Nat × z_V)} (hd : decode M.2.1 pc = .ok (.astore i, 2)) (hn : i < M.2.2.1) (hl' : z_st L i (z_r x) = L') (k : z_Sem M nz (pc + 2) L' st σ Q) : z_Sem M nz pc L (z_r x :: st) σ Q := by
  subst hl'
  exact z_pure (fun G _ _ _ _ _ _ _ _ _ _ _ _ ls hX _ _ _ hl kk => lv_astore hX.1 hX.2.1 hd hl hn (z_lo_st G L i (z_r x)) kk) (fun h1 h2 => z_RvS (z_RvC h2).1 h1) (fun _ h => (z_RvC h).2) k
abbrev z_sb0' : z_C := .inl (9, [some none, none, none, none])
section ZJDK6
variable {sh : List z_C} {w : z_Mm} {Q : Option z_V → z_S → Prop}
theorem t_J5_length {a v m : Nat} (hs : z_isSb sh a v m) (h : Q (some (z_i (w a 3))) (sh, w)) : z_Sem mJ5_length_8abf5 (sh.length, 0) 0 [(0, z_r a)] [] (sh, w) Q := by
  refine z_aload_n 0 dJ5_length_8abf5_0 rfl rfl ?_
  refine z_getI (ki := 3) zfRJ5_79 dJ5_length_8abf5_1 hs.1 rfl rfl ?_
  exact z_ret (v := some (z_i (w a 3))) dJ5_length_8abf5_4 ⟨rfl, Or.inl rfl⟩ rfl h
theorem t_J4_length {a v m : Nat} (hs : z_isSb sh a v m) (h : Q (some (z_i (w a 3))) (sh, w)) : z_Sem mJ4_length_8abf5 (sh.length, 0) 0 [(0, z_r a)] [] (sh, w) Q := by
  refine z_aload_n 0 dJ4_length_8abf5_0 rfl rfl ?_
  refine z_callN (vs := [z_r a]) (rest := []) (z_invSU (C := RJ4) (As := []) z_cl10 zmJ5_length_8abf5 znJ5_length_8abf5 zqJ5_length_8abf5 zuRJ4 (by decide) zlRJ4_343' ⟨z_lek rfl, z_lek rfl⟩ dJ4_length_8abf5_1 rfl) zmJ5_length_8abf5.2.2.2.2 (fun G p s m args meth c H locs hX hP => z_recC (σ := (sh, w)) z_cl10 hs.1 hX hP) rfl (z_ar z_a0) (z_lek rfl) (z_lek rfl) ⟨rfl, rfl⟩ ?_
  refine t_J5_length hs ?_
  exact z_ret (v := some (z_i (w a 3))) dJ4_length_8abf5_4 ⟨rfl, Or.inl rfl⟩ rfl h
theorem t_J5_getValue {a v m : Nat} (hs : z_isSb sh a v m) (h : Q (some (z_r v)) (sh, w)) : z_Sem mJ5_getValue_6d5f1 (sh.length, 0) 0 [(0, z_r a)] [] (sh, w) Q := by
  refine z_aload_n 0 dJ5_getValue_6d5f1_0 rfl rfl ?_
  refine z_getR (r := v) zfRJ5_15 dJ5_getValue_6d5f1_1 hs.1 rfl ?_
  exact z_ret (v := some (z_r v)) dJ5_getValue_6d5f1_4 ⟨rfl, _, rfl, Or.inr ⟨_, rfl⟩⟩ rfl h
theorem t_J7_checkLength {x y : Int} (hxy : x ≤ y) (h : Q none (sh, w)) : z_Sem mJ7_checkLength_df160 (sh.length, 0) 0 [(0, z_i x), (1, z_i y)] [] (sh, w) Q := by
  refine z_iload_n 1 dJ7_checkLength_df160_0 rfl rfl ?_
  refine z_iload_n 0 dJ7_checkLength_df160_1 rfl rfl ?_
  refine z_icmp_ge (tgt := 37) dJ7_checkLength_df160_2 (by decide) (fun _ => ?_) (fun c => absurd hxy c)
  exact z_ret (v := none) dJ7_checkLength_df160_37 ⟨rfl, rfl⟩ rfl h
theorem t_J7_copyOfRangeByte {v m n k : Nat} (hv : sh[v]? = some (.inr (.inl (2, m)))) (hn1 : 1 ≤ n) (hmn : n ≤ m) (hn : m ≤ 100000) (hk : n ≤ k) (hsl : sh.length < 1000) (hlo : z_cls0 sh) (hb : ∀ j : Int, 0 ≤ j → j < m → 0 ≤ w v j ∧ w v j < 128)
    (h : ∀ w' : z_Mm, (∀ j : Int, 0 ≤ j → j < n → w' sh.length j = w v j) → (∀ b, b ≠ sh.length → w' b = w b) → Q (some (z_r sh.length)) (sh ++ [.inr (.inl (2, n))], w')) : z_Sem (mJ7_copyOfRangeByte_39247 k) (sh.length, 0) 0 [(0, z_r v), (1, z_i 0), (2, z_i (n : Int))] [] (sh, w) Q := by
  have hvl := z_ltat hv
  have hmR : z_R (m : Int) := ⟨by omega, by omega⟩
  refine z_iload_n 1 dJ7_copyOfRangeByte_39247_0 rfl rfl ?_
  refine z_iload_n 2 dJ7_copyOfRangeByte_39247_1 rfl rfl ?_
  refine z_callS (As := [z_i 0, z_i (n : Int)]) (rest := []) zmJ7_checkLength_df160 ztJ7_checkLength_df160 zlRJ7_343 ⟨z_lek rfl, z_lek rfl⟩ dJ7_copyOfRangeByte_39247_2 rfl rfl (z_ai (z_ai z_a0)) (z_lek rfl) (z_lek rfl) ⟨rfl, rfl⟩ ?_
  refine t_J7_checkLength (by omega) ?_
  show z_Sem (mJ7_copyOfRangeByte_39247 k) (sh.length, 0) 5 [(0, z_r v), (1, z_i 0), (2, z_i (n : Int))] [] (sh, w) Q
  refine z_iload_n 2 dJ7_copyOfRangeByte_39247_5 rfl rfl ?_
  refine z_iload_n 1 dJ7_copyOfRangeByte_39247_6 rfl rfl ?_
  refine z_isub dJ7_copyOfRangeByte_39247_7 ⟨by omega, by omega⟩ ?_
  rw [show (n : Int) - 0 = (n : Int) by omega]
  refine z_istore_n (L' := [(3, z_i (n : Int)), (0, z_r v), (1, z_i 0), (2, z_i (n : Int))]) dJ7_copyOfRangeByte_39247_8 rfl (z_ltk rfl) rfl ?_
  refine z_iload_n 0 dJ7_copyOfRangeByte_39247_9 rfl rfl ?_
  refine z_newa (kd := 2) (Or.inr (Or.inr ⟨rfl, rfl⟩)) z_awb (by omega) hsl hlo (fun q hq => ?_) (fun q hq => by cases hq) hn1 ⟨by show 0 + n ≤ k; omega, by show 0 + n ≤ k; omega⟩ dJ7_copyOfRangeByte_39247_10 ?_
  · simp only [List.mem_cons, List.not_mem_nil, or_false] at hq
    rcases hq with rfl | rfl | rfl | rfl
    · exact True.intro
    · exact Or.inl hvl
    · exact True.intro
    · exact True.intro
  · refine z_gennw (fun w1 hw1 hw2 => ?_)
    have hv1 : (sh ++ [.inr (.inl (2, n))])[v]? = some (.inr (.inl (2, m))) := z_leftat hv
    refine z_astore (L' := [(4, z_r sh.length), (3, z_i (n : Int)), (0, z_r v), (1, z_i 0), (2, z_i (n : Int))]) dJ7_copyOfRangeByte_39247_12 (z_ltk rfl) rfl ?_
    refine z_aload_n 2 dJ7_copyOfRangeByte_39247_14 rfl rfl ?_
    refine z_iload_n 3 dJ7_copyOfRangeByte_39247_15 rfl rfl ?_
    refine z_aload 0 dJ7_copyOfRangeByte_39247_16 rfl ?_
    refine z_iconst dJ7_copyOfRangeByte_39247_18 (by decide) ?_
    refine z_aload_n 2 dJ7_copyOfRangeByte_39247_19 rfl rfl ?_
    refine z_alen dJ7_copyOfRangeByte_39247_20 (by decide) hv1 hmR ?_
    refine z_iload_n 3 dJ7_copyOfRangeByte_39247_21 rfl rfl ?_
    refine z_isub dJ7_copyOfRangeByte_39247_22 ⟨by omega, by omega⟩ ?_
    refine z_iload_n 1 dJ7_copyOfRangeByte_39247_23 rfl rfl ?_
    refine z_callS (As := [z_i ((m : Int) - 0), z_i (n : Int)]) (rest := [z_i 0, z_r sh.length, z_i 0, z_r v]) zmJ9_min_7cf53 ztJ9_min_7cf53 zlRJ7_304 ⟨z_lek rfl, z_lek rfl⟩ dJ7_copyOfRangeByte_39247_24 rfl rfl (z_ai (z_ai z_a0)) (z_lek rfl) (z_lek rfl) ⟨rfl, rfl⟩ ?_
    refine t_J9_min_7cf53 ?_
    show z_Sem (mJ7_copyOfRangeByte_39247 k) (sh.length, 0 + n) 27 [(4, z_r sh.length), (3, z_i (n : Int)), (0, z_r v), (1, z_i 0), (2, z_i (n : Int))] [z_i (f_J9_min_7cf53 w1 ((m : Int) - 0) (n : Int)), z_i 0, z_r sh.length, z_i 0, z_r v] (sh ++ [.inr (.inl (2, n))], w1) Q
    rw [z_fmin, show min ((m : Int) - 0) (n : Int) = (n : Int) by omega]
    refine z_copyK (Or.inr ⟨rfl, rfl⟩) (fun i i0 i1 => ?_) zARJ7_150 zl_cpn zl_cps zl_cpi hv1 z_lastat ⟨by decide, by decide, by omega⟩ ⟨by omega, by omega⟩ ⟨z_lek rfl, z_lek rfl⟩ dJ7_copyOfRangeByte_39247_27 ?_
    · show fits .byte (.int (Int32.ofInt (w1 v i))) = true
      rw [hw2 v (by omega)]
      exact z_fitB' (hb i (by omega) (by omega))
    · refine z_aload 0 dJ7_copyOfRangeByte_39247_30 rfl ?_
      refine z_ret (v := some (z_r sh.length)) dJ7_copyOfRangeByte_39247_32 ⟨rfl, _, rfl, Or.inr ⟨_, rfl⟩⟩ rfl ?_
      refine h (z_CP w1 v 0 sh.length 0 (n : Int)) (fun j j0 j1 => ?_) (fun b hb => ?_)
      · rw [z_CP_in ⟨j0, by omega⟩, show (0 : Int) + (j - 0) = j by omega, hw2 v (by omega)]
      · rw [z_CPf hb, hw2 b hb]
theorem t_J7_copyOfRange {v m n k : Nat} (hv : sh[v]? = some (.inr (.inl (2, m)))) (hn1 : 1 ≤ n) (hmn : n ≤ m) (hn : m ≤ 100000) (hk : n ≤ k) (hsl : sh.length < 1000) (hlo : z_cls0 sh) (hb : ∀ j : Int, 0 ≤ j → j < m → 0 ≤ w v j ∧ w v j < 128)
    (h : ∀ w' : z_Mm, (∀ j : Int, 0 ≤ j → j < n → w' sh.length j = w v j) → (∀ b, b ≠ sh.length → w' b = w b) → Q (some (z_r sh.length)) (sh ++ [.inr (.inl (2, n))], w')) : z_Sem (mJ7_copyOfRange_39247 k) (sh.length, 0) 0 [(0, z_r v), (1, z_i 0), (2, z_i (n : Int))] [] (sh, w) Q := by
  have hvl := z_ltat hv
  have hmR : z_R (m : Int) := ⟨by omega, by omega⟩
  have hL : z_lv sh.length [(0, z_r v), (1, z_i 0), (2, z_i (n : Int))] := fun q hq => by
    simp only [List.mem_cons, List.not_mem_nil, or_false] at hq
    rcases hq with rfl | rfl | rfl
    · exact Or.inl hvl
    · exact True.intro
    · exact True.intro
  refine z_iload_n 1 dJ7_copyOfRange_39247_0 rfl rfl ?_
  refine z_if_ne (tgt := 10) dJ7_copyOfRange_39247_1 (by decide) (fun c => absurd rfl c) (fun _ => ?_)
  refine z_iload_n 2 dJ7_copyOfRange_39247_4 rfl rfl ?_
  refine z_aload_n 0 dJ7_copyOfRange_39247_5 rfl rfl ?_
  refine z_alen dJ7_copyOfRange_39247_6 (by decide) hv hmR ?_
  refine z_icmp_eq (tgt := 17) dJ7_copyOfRange_39247_7 (by decide) (fun c => ?_) (fun c => ?_)
  · have hnm : n = m := by omega
    subst hnm
    refine z_aload_n 0 dJ7_copyOfRange_39247_17 rfl rfl ?_
    refine z_cloneB zl_cl1 zl_cl2 zl_cl3 zl_cl4 zl_cl5 zl_cl6 hv (fun j hj => z_fitB' (hb j (by omega) (by omega))) hsl hlo hL (fun q hq => by cases hq) hn1 ⟨by show 0 + n ≤ k; omega, by show 0 + n ≤ k; omega⟩ ⟨z_lek rfl, z_lek rfl⟩ dJ7_copyOfRange_39247_18 ?_
    refine z_castB zl_cl7 (N := n) (by show (sh ++ [(.inr (.inl (2, n)) : z_C)])[sh.length]? = _; exact z_lastat) dJ7_copyOfRange_39247_21 ?_
    refine z_ret (v := some (z_r sh.length)) dJ7_copyOfRange_39247_24 ⟨rfl, _, rfl, Or.inr ⟨_, rfl⟩⟩ rfl (h _ (fun j _ _ => ?_) (fun b hb => ?_))
    · show (if sh.length = sh.length then w v else w sh.length) j = w v j
      rw [if_pos rfl]
    · show (if b = sh.length then w v else w b) = w b
      rw [if_neg hb]
  · refine z_aload_n 0 dJ7_copyOfRange_39247_10 rfl rfl ?_
    refine z_iload_n 1 dJ7_copyOfRange_39247_11 rfl rfl ?_
    refine z_iload_n 2 dJ7_copyOfRange_39247_12 rfl rfl ?_
    refine z_callA (M' := mJ7_copyOfRangeByte_39247 k) (vs := [z_r v, z_i 0, z_i (n : Int)]) (rest := []) (z_invS (As := [z_r v, z_i 0, z_i (n : Int)]) zmJ7_copyOfRangeByte_39247 ztJ7_copyOfRangeByte_39247 zlRJ7_339 ⟨z_lek rfl, z_lek rfl⟩ dJ7_copyOfRange_39247_13 rfl) zwJ7_copyOfRangeByte_39247.2.2.2.2 (fun _ _ _ _ _ _ _ _ _ _ _ => True.intro) rfl (z_ar (z_ai (z_ai z_a0))) (z_lek rfl) (z_lek rfl) hL (fun q hq => by cases hq) (Nat.le_refl _) (by show k ≠ 0; omega) (by show 0 + k ≤ k ∧ 0 + k ≤ k; omega) ?_
    refine t_J7_copyOfRangeByte hv hn1 hmn hn hk hsl hlo hb (fun w' g1 g2 => ?_)
    exact z_ret (v := some (z_r sh.length)) dJ7_copyOfRange_39247_16 ⟨rfl, _, rfl, Or.inr ⟨_, rfl⟩⟩ rfl (h w' g1 g2)
abbrev z_stc (v : Nat) : z_C := .inl (9, [some (some v), none, none, none])
theorem z_u_sh2 {sh : List z_C} {w : z_Mm} {a : Nat} {c : z_C} {f : Int → Int} (h : f = w a) : z_u (sh, w) a c f = (sh.set a c, w) := by subst h; exact z_u_sh
theorem t_J0_initB {a b v m n k : Nat} (ha : sh[a]? = some z_sb0') (hs : z_isSb sh b v m) (h1 : w b 1 = 0) (h3 : w b 3 = (n : Int)) (hn1 : 1 ≤ n) (hmn : n ≤ m) (hn : m ≤ 100000) (hk : n ≤ k) (hsl : sh.length < 1000) (hlo : z_cls0 sh) (hb : ∀ j : Int, 0 ≤ j → j < m → 0 ≤ w v j ∧ w v j < 128)
    (h : ∀ w' : z_Mm, (∀ j : Int, 0 ≤ j → j < n → w' sh.length j = w v j) → w' a 1 = 0 → (∀ c, c ≠ sh.length → c ≠ a → w' c = w c) → Q none (sh.set a (z_stc sh.length) ++ [.inr (.inl (2, n))], w')) : z_Sem (mJ0_init_db425 k) (sh.length, 0) 0 [(0, z_r a), (1, z_r b), (2, z_x none)] [] (sh, w) Q := by
  have hal := z_ltat ha
  have hbl := z_ltat hs.1
  have hvl := z_ltat hs.2
  have hab : a ≠ b := fun e => by subst e; have := ha.symm.trans hs.1; cases this
  have hav : a ≠ v := fun e => by subst e; have := ha.symm.trans hs.2; cases this
  refine z_aload_n 0 dJ0_init_db425_0 rfl rfl ?_
  refine z_objInit zORJ0_1 z_oin z_oco ⟨z_lek rfl, z_lek rfl⟩ dJ0_init_db425_1 ?_
  refine z_aload_n 1 dJ0_init_db425_4 rfl rfl ?_
  refine z_callV (As := []) (rest := []) zmJ5_getValue_6d5f1 znJ5_getValue_6d5f1 zsJ5_getValue_6d5f1 z_cl10 zlRJ0_552 ⟨z_lek rfl, z_lek rfl⟩ dJ0_init_db425_5 hs.1 rfl rfl z_a0 (z_lek rfl) (z_lek rfl) ⟨rfl, rfl⟩ ?_
  refine t_J5_getValue hs ?_
  show z_Sem (mJ0_init_db425 k) (sh.length, 0) 8 [(0, z_r a), (1, z_r b), (2, z_x none)] [z_r v] (sh, w) Q
  refine z_astore_n (L' := [(3, z_r v), (0, z_r a), (1, z_r b), (2, z_x none)]) dJ0_init_db425_8 rfl (z_ltk rfl) rfl ?_
  refine z_aload_n 2 dJ0_init_db425_9 rfl rfl ?_
  refine z_callN (vs := [z_r b]) (rest := []) (z_invO (C := RJ4) (As := []) zmJ4_length_8abf5 znJ4_length_8abf5 znJ5_length_8abf5 zmJ5_length_8abf5.1 zmJ5_length_8abf5.2.2.1 zmJ5_length_8abf5.2.2.2.1 zqJ5_length_8abf5 zxJ4_length_8abf5 zlRJ0_549' ⟨z_lek rfl, z_lek rfl⟩ dJ0_init_db425_10 rfl) zmJ4_length_8abf5.2.2.2.2 (fun G p s m args meth c H locs hX hP => z_recC (σ := (sh, w)) z_cl10 hs.1 hX hP) rfl (z_ar z_a0) (z_lek rfl) (z_lek rfl) ⟨rfl, rfl⟩ ?_
  refine t_J4_length hs ?_
  show z_Sem (mJ0_init_db425 k) (sh.length, 0) 13 [(3, z_r v), (0, z_r a), (1, z_r b), (2, z_x none)] [z_i (w b 3)] (sh, w) Q
  rw [h3]
  refine z_istore (L' := [(4, z_i (n : Int)), (3, z_r v), (0, z_r a), (1, z_r b), (2, z_x none)]) dJ0_init_db425_13 (z_ltk rfl) rfl ?_
  refine z_aload_n 3 dJ0_init_db425_15 rfl rfl ?_
  refine z_callV (As := []) (rest := []) zmJ5_isLatin1_aae02 znJ5_isLatin1_aae02 zsJ5_isLatin1_aae02 z_cl10 zlRJ0_1047 ⟨z_lek rfl, z_lek rfl⟩ dJ0_init_db425_16 hs.1 rfl rfl z_a0 (z_lek rfl) (z_lek rfl) ⟨rfl, rfl⟩ ?_
  refine t_J5_isLatin1 hs h1 ?_
  show z_Sem (mJ0_init_db425 k) (sh.length, 0) 19 [(4, z_i (n : Int)), (3, z_r v), (0, z_r a), (1, z_r b), (2, z_x none)] [z_i 1] (sh, w) Q
  refine z_if_eq (tgt := 41) dJ0_init_db425_19 (by decide) (fun c => absurd c (by decide)) (fun _ => ?_)
  refine z_aload_n 2 dJ0_init_db425_22 rfl rfl ?_
  refine z_iconst dJ0_init_db425_23 (by decide) ?_
  refine z_putVF (k := 1) zoRJ0_15 rfl (by decide) (by decide) dJ0_init_db425_24 ha rfl ?_
  show z_Sem (mJ0_init_db425 k) (sh.length, 0) 27 _ [] (sh, z_W w a ((1 : Nat) : Int) 0) Q
  refine z_genw (fun w0 hw0 => ?_)
  have ef : ∀ c, c ≠ a → w0 c = w c := fun c hc => by subst hw0; exact z_Wf hc
  refine z_aload_n 2 dJ0_init_db425_27 rfl rfl ?_
  refine z_aload_n 1 dJ0_init_db425_28 rfl rfl ?_
  refine z_iconst dJ0_init_db425_29 (by decide) ?_
  refine z_iload 0 dJ0_init_db425_30 rfl ?_
  refine z_callA (M' := mJ7_copyOfRange_39247 k) (vs := [z_r v, z_i 0, z_i (n : Int)]) (rest := [z_r a]) (z_invS (As := [z_r v, z_i 0, z_i (n : Int)]) zmJ7_copyOfRange_39247 ztJ7_copyOfRange_39247 zlRJ0_54 ⟨z_lek rfl, z_lek rfl⟩ dJ0_init_db425_32 rfl) zwJ7_copyOfRange_39247.2.2.2.2 (fun _ _ _ _ _ _ _ _ _ _ _ => True.intro) rfl (z_ar (z_ai (z_ai z_a0))) (z_lek rfl) (z_lek rfl) (fun q hq => ?_) (fun q hq => by rw [List.mem_singleton.mp hq]; exact Or.inl hal) (Nat.le_refl _) (by show k ≠ 0; omega) (by show 0 + k ≤ k ∧ 0 + k ≤ k; omega) ?_
  · simp only [List.mem_cons, List.not_mem_nil, or_false] at hq
    rcases hq with rfl | rfl | rfl | rfl | rfl
    · exact True.intro
    · exact Or.inl hvl
    · exact Or.inl hal
    · exact Or.inl hbl
    · exact True.intro
  · refine t_J7_copyOfRange hs.2 hn1 hmn hn hk hsl hlo (fun j j0 j1 => by rw [ef v (Ne.symm hav)]; exact hb j j0 j1) (fun w' g1 g2 => ?_)
    show z_Sem (mJ0_init_db425 k) (sh.length, 0 + k) 35 [(4, z_i (n : Int)), (3, z_r v), (0, z_r a), (1, z_r b), (2, z_x none)] [z_r sh.length, z_r a] (sh ++ [.inr (.inl (2, n))], w') Q
    refine z_putR zoRJ0_9 (fun _ => rfl) (fun b => ⟨rfl, rfl⟩) dJ0_init_db425_35 (z_leftat ha) (z_ltk rfl) ?_
    show z_Sem _ _ _ _ _ (z_u (sh ++ [.inr (.inl (2, n))], w') a (z_stc sh.length) (w' a)) Q
    rw [z_u_sh, List.set_append_left _ _ hal]
    refine z_goto (tgt := 97) dJ0_init_db425_38 (by decide) ?_
    refine z_ret (v := none) dJ0_init_db425_97 ⟨rfl, rfl⟩ rfl (h w' (fun j j0 j1 => ?_) ?_ (fun c hc hca => ?_))
    · rw [g1 j j0 j1, ef v (Ne.symm hav)]
    · rw [g2 a (show a ≠ sh.length by omega)]
      subst hw0
      show (if a = a ∧ (1 : Int) = ((1 : Nat) : Int) then (0 : Int) else w a 1) = 0
      rw [if_pos ⟨rfl, rfl⟩]
    · rw [g2 c hc, ef c hca]
theorem t_J0_initSB {a b v m n k : Nat} (ha : sh[a]? = some z_sb0') (hs : z_isSb sh b v m) (h1 : w b 1 = 0) (h3 : w b 3 = (n : Int)) (hn1 : 1 ≤ n) (hmn : n ≤ m) (hn : m ≤ 100000) (hk : n ≤ k) (hsl : sh.length < 1000) (hlo : z_cls0 sh) (hb : ∀ j : Int, 0 ≤ j → j < m → 0 ≤ w v j ∧ w v j < 128)
    (h : ∀ w' : z_Mm, (∀ j : Int, 0 ≤ j → j < n → w' sh.length j = w v j) → w' a 1 = 0 → (∀ c, c ≠ sh.length → c ≠ a → w' c = w c) → Q none (sh.set a (z_stc sh.length) ++ [.inr (.inl (2, n))], w')) : z_Sem (mJ0_init_81219 k) (sh.length, 0) 0 [(0, z_r a), (1, z_r b)] [] (sh, w) Q := by
  have hal := z_ltat ha
  have hbl := z_ltat hs.1
  refine z_aload_n 0 dJ0_init_81219_0 rfl rfl ?_
  refine z_aload_n 1 dJ0_init_81219_1 rfl rfl ?_
  refine z_anull dJ0_init_81219_2 ?_
  refine z_callA (M' := mJ0_init_db425 k) (vs := [z_r a, z_r b, z_x none]) (rest := []) (z_invI (As := [z_r b, z_x none]) zmJ0_init_db425 znJ0_init_db425 rfl rfl zlRJ0_489 ⟨z_lek rfl, z_lek rfl⟩ dJ0_init_81219_3 rfl) zwJ0_init_db425.2.2.2.2 (fun _ _ _ _ _ _ _ _ _ _ _ => True.intro) rfl (z_ar (z_ar (List.forall_mem_cons.mpr ⟨True.intro, z_a0⟩))) (z_lek rfl) (z_lek rfl) (z_lvrr hal (Or.inl hbl)) (fun q hq => by cases hq) (Nat.le_refl _) (by show k ≠ 0; omega) (by show 0 + k ≤ k ∧ 0 + k ≤ k; omega) ?_
  refine t_J0_initB ha hs h1 h3 hn1 hmn hn hk hsl hlo hb (fun w' g1 g2 g3 => ?_)
  exact z_ret (v := none) dJ0_init_81219_6 ⟨rfl, rfl⟩ rfl (h w' g1 g2 g3)
/-- toString -/
theorem t_J4_toString {b v m k : Nat} {t : List Int} (hs : z_isSb sh b v m) (h1 : w b 1 = 0) (h3 : w b 3 = (t.length : Int)) (hn1 : 1 ≤ t.length) (hmn : t.length ≤ m) (hn : m ≤ 100000) (hk : t.length + 4 ≤ k) (hsl : sh.length < 999) (hlo : z_cls0 sh) (hb : ∀ j : Int, 0 ≤ j → j < m → 0 ≤ w v j ∧ w v j < 128) (hx : z_tx w v t) (ht : z_as t)
    (h : ∀ w' : z_Mm, z_isx (sh ++ [z_stc (sh.length + 1), .inr (.inl (2, t.length))]) w' sh.length t → (∀ c, c < sh.length → w' c = w c) → Q (some (z_r sh.length)) (sh ++ [z_stc (sh.length + 1), .inr (.inl (2, t.length))], w')) : z_Sem (mJ4_toString_0e30d k) (sh.length, 0) 0 [(0, z_r b)] [] (sh, w) Q := by
  have hbl := z_ltat hs.1
  have hvl := z_ltat hs.2
  refine z_new z_k9 zcRJ4_18 ziRJ0 zIRJ0 z_flJ0 (show sh.length < 1000 by omega) hlo (z_lv1 hbl) (fun q hq => by cases hq) (by decide) ⟨by show 0 + 4 ≤ k; omega, by show 0 + 4 ≤ k; omega⟩ dJ4_toString_0e30d_0 ?_
  refine z_gennw (fun w1 hw1 hw2 => ?_)
  have hlen : (sh ++ [z_sb0']).length = sh.length + 1 := by rw [List.length_append]; rfl
  have hlo1 : z_cls0 (sh ++ [z_sb0']) := by
    unfold z_cls0
    rw [List.length_append]
    refine z_cl1_app hlo (fun c hc => ?_)
    rw [List.mem_singleton.mp hc]
    exact (fun o ho a ha => by
      simp only [List.mem_cons, List.not_mem_nil, or_false] at ho
      rcases ho with rfl | rfl | rfl | rfl <;> cases ha)
  refine z_dup dJ4_toString_0e30d_3 rfl ?_
  refine z_aload_n 0 dJ4_toString_0e30d_4 rfl rfl ?_
  refine z_callA (M' := mJ0_init_81219 t.length) (vs := [z_r sh.length, z_r b]) (rest := [z_r sh.length]) (z_invI (As := [z_r b]) zmJ0_init_81219 znJ0_init_81219 rfl rfl zlRJ4_137 ⟨z_lek rfl, z_lek rfl⟩ dJ4_toString_0e30d_5 rfl) zwJ0_init_81219.2.2.2.2 (fun _ _ _ _ _ _ _ _ _ _ _ => True.intro) rfl (z_ar (z_ar z_a0)) (z_lek rfl) (z_lek rfl) (z_lv1 (by show b < (sh ++ [z_sb0']).length; omega)) (fun q hq => by rw [List.mem_singleton.mp hq]; exact Or.inl (by show sh.length < (sh ++ [z_sb0']).length; omega)) (Nat.le_refl _) (by show k ≠ 0; omega) (by show 0 + 4 + t.length ≤ k ∧ 0 + 4 + t.length ≤ k; omega) ?_
  refine t_J0_initSB (a := sh.length) (n := t.length) z_lastat ⟨z_leftat hs.1, z_leftat hs.2⟩ (by rw [hw2 b (by omega)]; exact h1) (by rw [hw2 b (by omega)]; exact h3) hn1 hmn hn (Nat.le_refl _) (by rw [hlen]; omega) hlo1 (fun j j0 j1 => by rw [hw2 v (by omega)]; exact hb j j0 j1) (fun w' g1 g2 g3 => ?_)
  rw [hlen] at g1 g3
  rw [hlen]
  have hsh : (sh ++ [z_sb0']).set sh.length (z_stc (sh.length + 1)) ++ [(.inr (.inl (2, t.length)) : z_C)] = sh ++ [z_stc (sh.length + 1), .inr (.inl (2, t.length))] := by
    rw [List.set_append_right _ _ (Nat.le_refl _), Nat.sub_self, List.append_assoc]
    rfl
  rw [hsh]
  have hx' : z_isx (sh ++ [z_stc (sh.length + 1), .inr (.inl (2, t.length))]) w' sh.length t := by
    refine ⟨ht, Or.inr ⟨sh.length + 1, ⟨by simp, by rw [List.getElem?_append_right (by omega)]; simp⟩, g2, fun q b hq => ?_⟩⟩
    have hql := (List.getElem?_eq_some_iff.mp hq).1
    rw [g1 q (by omega) (by omega), hw2 v (by omega)]
    exact hx q b hq
  exact z_ret (v := some (z_r sh.length)) dJ4_toString_0e30d_8 ⟨rfl, _, rfl, Or.inl ⟨_, rfl⟩⟩ rfl (h w' hx' (fun c hc => by rw [g3 c (by omega) (by omega), hw2 c (by omega)]))
end ZJDK6
