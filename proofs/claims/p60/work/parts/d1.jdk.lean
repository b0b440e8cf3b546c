/-! BUILDERS GROW -/
set_option maxRecDepth 100000 in
theorem zlRJ4_50' : Cond.methodLink RJ4 50 yJ5_append_3fe6f ∈ z_tb := z_w1 876 (Eq.refl _) (by decide +kernel)
set_option maxRecDepth 100000 in
theorem zlRJ4_29' : Cond.methodLink RJ4 29 yJ5_append_cf1ce ∈ z_tb := z_w1 741 (Eq.refl _) (by decide +kernel)
set_option maxRecDepth 100000 in
theorem zlRJ4_53' : Cond.methodLink RJ4 53 yJ5_append_c97b9 ∈ z_tb := z_w1 848 (Eq.refl _) (by decide +kernel)
set_option maxRecDepth 100000 in
theorem zlRJ5_43' : Cond.methodLink RJ5 43 yJ5_append_cf1ce ∈ z_tb := z_w1 731 (Eq.refl _) (by decide +kernel)
set_option maxRecDepth 100000 in
theorem zlRJ0_549' : Cond.methodLink RJ0 549 yJ5_length_8abf5 ∈ z_tb := z_w1 913 (Eq.refl _) (by decide +kernel)
/-- a builder at a whose row is v of m bytes has room for q bytes: as it was, or with a new row -/
def z_gr (sh : List z_C) (w : z_Mm) (a v m : Nat) (q : Int) (sh' : List z_C) (w' : z_Mm) (v' m' : Nat) : Prop :=
  (sh' = sh ∧ w' = w ∧ v' = v ∧ m' = m ∧ q ≤ (m : Int)) ∨
  ((m : Int) < q ∧ sh' = sh.set a (z_sbc sh.length) ++ [.inr (.inl (2, m'))] ∧ v' = sh.length ∧ (m' : Int) = (m : Int) + max (q - m) (m + 2) ∧ (∀ j : Int, 0 ≤ j → j < m → w' v' j = w v j) ∧ (∀ j : Int, (j < 0 ∨ m ≤ j) → w' v' j = 0) ∧ ∀ b, b ≠ v' → w' b = w b)
theorem z_gr.sb {sh : List z_C} {w : z_Mm} {a v m : Nat} {q : Int} {sh' : List z_C} {w' : z_Mm} {v' m' : Nat} (hs : z_isSb sh a v m) (h : z_gr sh w a v m q sh' w' v' m') : z_isSb sh' a v' m' ∧ q ≤ (m' : Int) ∧ w' a = w a ∧ a ≠ v' := by
  have hal := z_ltat hs.1
  rcases h with ⟨rfl, rfl, rfl, rfl, h⟩ | ⟨h1, rfl, rfl, h4, h5, h6, h7⟩
  · refine ⟨hs, h, rfl, fun e => ?_⟩
    subst e
    have := hs.1.symm.trans hs.2
    cases this
  · refine ⟨⟨?_, ?_⟩, by omega, h7 a (by omega), by omega⟩
    · rw [List.getElem?_append_left (by rw [List.length_set]; exact hal), List.getElem?_set_self hal]
    · rw [List.getElem?_append_right (by rw [List.length_set]; exact Nat.le_refl _), List.length_set, Nat.sub_self]
      rfl
theorem z_gr.at {sh : List z_C} {w : z_Mm} {a v m : Nat} {q : Int} {sh' : List z_C} {w' : z_Mm} {v' m' : Nat} (h : z_gr sh w a v m q sh' w' v' m') {b : Nat} {c : z_C} (hb : sh[b]? = some c) (hba : b ≠ a) : sh'[b]? = some c ∧ w' b = w b := by
  have hbl := z_ltat hb
  rcases h with ⟨rfl, rfl, rfl, rfl, h⟩ | ⟨h1, rfl, rfl, h4, h5, h6, h7⟩
  · exact ⟨hb, rfl⟩
  · refine ⟨?_, h7 b (by omega)⟩
    rw [List.getElem?_append_left (by rw [List.length_set]; exact hbl), List.getElem?_set_ne (Ne.symm hba)]
    exact hb
theorem z_gr.len {sh : List z_C} {w : z_Mm} {a v m : Nat} {q : Int} {sh' : List z_C} {w' : z_Mm} {v' m' : Nat} (h : z_gr sh w a v m q sh' w' v' m') : sh.length ≤ sh'.length := by
  rcases h with ⟨rfl, rfl, rfl, rfl, h⟩ | ⟨h1, rfl, rfl, h4, h5, h6, h7⟩
  · exact Nat.le_refl _
  · simp
theorem z_gr.isx {sh : List z_C} {w : z_Mm} {a v m : Nat} {q : Int} {sh' : List z_C} {w' : z_Mm} {v' m' x : Nat} {t : List Int} (h : z_gr sh w a v m q sh' w' v' m') (hs : z_isSb sh a v m) (hx : z_isx sh w x t) : z_isx sh' w' x t := by
  refine ⟨hx.1, ?_⟩
  rcases hx.2 with h1 | ⟨u, h1, h2, h3⟩
  · exact Or.inl h1
  · have hxa : x ≠ a := fun e => by subst e; have := h1.1.symm.trans hs.1; simp at this
    have hua : u ≠ a := fun e => by subst e; have := h1.2.symm.trans hs.1; cases this
    have g1 := h.at h1.1 hxa
    have g2 := h.at h1.2 hua
    exact Or.inr ⟨u, ⟨g1.1, g2.1⟩, by rw [g1.2]; exact h2, fun k b hk => by rw [g2.2]; exact h3 k b hk⟩
section ZJDK2
variable {sh : List z_C} {w : z_Mm} {Q : Option z_V → z_S → Prop}
theorem t_J5_ensure {a v m k : Nat} {q : Int} (hs : z_isSb sh a v m) (h1 : w a 1 = 0) (hm : m ≤ 30000) (hq : 0 ≤ q ∧ q ≤ 30000) (hk : (m : Int) < q → (m : Int) + max (q - m) (m + 2) ≤ k) (hsl : sh.length < 1000) (hlo : z_cls0 sh) (hb : ∀ j : Int, 0 ≤ j → j < m → 0 ≤ w v j ∧ w v j < 128)
    (h : ∀ (sh' : List z_C) (w' : z_Mm) (v' m' : Nat), z_gr sh w a v m q sh' w' v' m' → Q none (sh', w')) : z_Sem (mJ5_ensureCapacityInternal_d00df k) (sh.length, 0) 0 [(0, z_r a), (1, z_i q)] [] (sh, w) Q := by
  by_cases hc : q ≤ (m : Int)
  · exact t_J5_ensure0 hs h1 (by omega) ⟨hq.1, hc⟩ (h sh w v m (Or.inl ⟨rfl, rfl, rfl, rfl, hc⟩))
  · have hc2 : (m : Int) < q := by omega
    have hk2 := hk hc2
    refine t_J5_ensure1 (n := ((m : Int) + max (q - m) (m + 2)).toNat) hs h1 (by omega) ⟨hc2, by omega⟩ (by omega) (by omega) hsl hlo hb (fun w' g1 g2 g3 => ?_)
    exact h _ w' sh.length _ (Or.inr ⟨hc2, rfl, rfl, by omega, g1, g2, g3⟩)
/-- the call of ensureCapacityInternal within a builder's method -/
theorem z_ensure {M : z_M} {pc a v m k : Nat} {q : Int} {L : List (Nat × z_V)} (hcls : M.1.cls = RJ5) (hs : z_isSb sh a v m) (h1 : w a 1 = 0) (hm : m ≤ 30000) (hq : 0 ≤ q ∧ q ≤ 30000) (hk1 : 1 ≤ k) (hk : (m : Int) < q → (m : Int) + max (q - m) (m + 2) ≤ k) (hsl : sh.length < 1000) (hlo : z_cls0 sh) (hb : ∀ j : Int, 0 ≤ j → j < m → 0 ≤ w v j ∧ w v j < 128) (hLv : z_lv sh.length L) (hMk : M.2.2.2.2.cells = k ∧ M.2.2.2.2.slots = k) (hrm : z_rm M (mJ5_ensureCapacityInternal_d00df k)) (hd : decode M.2.1 pc = .ok (.invokevirtual 100, 3))
    (kk : ∀ (sh' : List z_C) (w' : z_Mm) (v' m' : Nat), z_gr sh w a v m q sh' w' v' m' → z_Sem M (sh.length, k) (pc + 3) L [] (sh', w') Q) : z_Sem M (sh.length, 0) pc L [z_i q, z_r a] (sh, w) Q := by
  have hal := z_ltat hs.1
  have hlk : z_lk M.1.cls 100 (mJ5_ensureCapacityInternal_d00df k) := by rw [hcls]; exact zlRJ5_100
  refine z_callA (vs := [z_r a, z_i q]) (rest := []) (z_invV (C := RJ4) (As := [z_i q]) zmJ5_ensureCapacityInternal_d00df znJ5_ensureCapacityInternal_d00df zsJ5_ensureCapacityInternal_d00df hlk hrm hd rfl) zwJ5_ensureCapacityInternal_d00df.2.2.2.2 (fun G p s m args meth c H locs hX hP => z_recC (σ := (sh, w)) z_cl10 hs.1 hX hP) rfl (z_ar (z_ai z_a0)) (Nat.le_of_ble_eq_true rfl) (Nat.le_of_ble_eq_true rfl) hLv (fun q hq => by cases hq) (Nat.le_refl _) (by omega) (by show 0 + k ≤ M.2.2.2.2.cells ∧ 0 + k ≤ M.2.2.2.2.slots; omega) ?_
  refine t_J5_ensure hs h1 hm hq hk hsl hlo hb (fun sh' w' v' m' hg => ?_)
  have := kk sh' w' v' m' hg
  show z_Sem M (sh.length, 0 + k) (pc + 3) L [] (sh', w') Q
  rw [Nat.zero_add]
  exact this
theorem t_J1_canEncode {c : Int} (hc : 0 ≤ c ∧ c < 128) (h : Q (some (z_i 1)) (sh, w)) : z_Sem mJ1_canEncode_fc78d (sh.length, 0) 0 [(0, z_i c)] [] (sh, w) Q := by
  refine z_iload_n 0 dJ1_canEncode_fc78d_0 rfl rfl ?_
  refine z_sipush dJ1_canEncode_fc78d_1 (by decide) (by decide) ?_
  refine z_icmp_gt (tgt := 11) dJ1_canEncode_fc78d_4 (by decide) (fun c => absurd c (by omega)) (fun _ => ?_)
  refine z_iconst dJ1_canEncode_fc78d_7 (by decide) ?_
  refine z_goto (tgt := 12) dJ1_canEncode_fc78d_8 (by decide) ?_
  exact z_ret (v := some (z_i 1)) dJ1_canEncode_fc78d_12 ⟨rfl, Or.inr (Or.inl ⟨rfl, by decide⟩)⟩ rfl h
theorem z_lv2 {n a : Nat} {i j : Nat} {x : Int} (h : a < n) : z_lv n [(i, z_r a), (j, z_i x)] := by
  intro q hq
  simp only [List.mem_cons, List.not_mem_nil, or_false] at hq
  rcases hq with rfl | rfl
  · exact Or.inl h
  · exact True.intro
/-- append(char) -/
theorem t_J5_appendC {a v m k : Nat} {n c : Int} (hs : z_isSb sh a v m) (h1 : w a 1 = 0) (h3 : w a 3 = n) (hn : 0 ≤ n ∧ n ≤ m) (hc : 0 ≤ c ∧ c < 128) (hm : m ≤ 20000) (hk1 : 1 ≤ k) (hk : (m : Int) < n + 1 → (m : Int) + max (n + 1 - m) (m + 2) ≤ k) (hsl : sh.length < 1000) (hlo : z_cls0 sh) (hb : ∀ j : Int, 0 ≤ j → j < m → 0 ≤ w v j ∧ w v j < 128)
    (h : ∀ (sh' : List z_C) (w' : z_Mm) (v' m' : Nat), z_gr sh w a v m (n + 1) sh' w' v' m' → Q (some (z_r a)) (sh', z_W (z_W w' a 3 (n + 1)) v' n c)) : z_Sem (mJ5_append_3fe6f k) (sh.length, 0) 0 [(0, z_r a), (1, z_i c)] [] (sh, w) Q := by
  have hal := z_ltat hs.1
  refine z_aload_n 0 dJ5_append_3fe6f_0 rfl rfl ?_
  refine z_aload_n 0 dJ5_append_3fe6f_1 rfl rfl ?_
  refine z_getI (ki := 3) zfRJ5_79 dJ5_append_3fe6f_2 hs.1 rfl rfl ?_
  show z_Sem (mJ5_append_3fe6f k) (sh.length, 0) 5 [(0, z_r a), (1, z_i c)] [z_i (w a 3), z_r a] (sh, w) Q
  rw [h3]
  refine z_iconst dJ5_append_3fe6f_5 (by decide) ?_
  refine z_iadd dJ5_append_3fe6f_6 ⟨by omega, by omega⟩ ?_
  refine z_ensure rfl hs h1 (by omega) ⟨by omega, by omega⟩ hk1 hk hsl hlo hb (z_lv2 hal) ⟨rfl, rfl⟩ ⟨Nat.le_of_ble_eq_true rfl, Nat.le_of_ble_eq_true rfl⟩ dJ5_append_3fe6f_7 (fun sh' w' v' m' hg => ?_)
  obtain ⟨hs', hq', hwa, hav⟩ := hg.sb hs
  have h1' : w' a 1 = 0 := by rw [hwa]; exact h1
  have h3' : w' a 3 = n := by rw [hwa]; exact h3
  show z_Sem (mJ5_append_3fe6f k) (sh.length, k) 10 [(0, z_r a), (1, z_i c)] [] (sh', w') Q
  refine z_aload_n 0 dJ5_append_3fe6f_10 rfl rfl ?_
  refine z_callV (As := []) (rest := []) zmJ5_isLatin1_aae02 znJ5_isLatin1_aae02 zsJ5_isLatin1_aae02 z_cl10 zlRJ5_83 ⟨Nat.le_of_ble_eq_true rfl, Nat.le_of_ble_eq_true rfl⟩ dJ5_append_3fe6f_11 hs'.1 rfl rfl z_a0 (Nat.le_of_ble_eq_true rfl) (Nat.le_of_ble_eq_true rfl) ⟨rfl, rfl⟩ ?_
  refine t_J5_isLatin1 hs' h1' ?_
  show z_Sem (mJ5_append_3fe6f k) (sh.length, k) 14 [(0, z_r a), (1, z_i c)] [z_i 1] (sh', w') Q
  refine z_if_eq (tgt := 45) dJ5_append_3fe6f_14 (by decide) (fun c => absurd c (by decide)) (fun _ => ?_)
  refine z_iload_n 1 dJ5_append_3fe6f_17 rfl rfl ?_
  refine z_callS (As := [z_i c]) (rest := []) zmJ1_canEncode_fc78d ztJ1_canEncode_fc78d zlRJ5_191 ⟨Nat.le_of_ble_eq_true rfl, Nat.le_of_ble_eq_true rfl⟩ dJ5_append_3fe6f_18 rfl rfl (z_ai z_a0) (Nat.le_of_ble_eq_true rfl) (Nat.le_of_ble_eq_true rfl) ⟨rfl, rfl⟩ ?_
  refine t_J1_canEncode hc ?_
  show z_Sem (mJ5_append_3fe6f k) (sh.length, k) 21 [(0, z_r a), (1, z_i c)] [z_i 1] (sh', w') Q
  refine z_if_eq (tgt := 45) dJ5_append_3fe6f_21 (by decide) (fun c => absurd c (by decide)) (fun _ => ?_)
  refine z_aload_n 0 dJ5_append_3fe6f_24 rfl rfl ?_
  refine z_getR (r := v') zfRJ5_15 dJ5_append_3fe6f_25 hs'.1 rfl ?_
  refine z_aload_n 0 dJ5_append_3fe6f_28 rfl rfl ?_
  refine z_dup dJ5_append_3fe6f_29 rfl ?_
  refine z_getI (ki := 3) zfRJ5_79 dJ5_append_3fe6f_30 hs'.1 rfl rfl ?_
  show z_Sem (mJ5_append_3fe6f k) (sh.length, k) 33 [(0, z_r a), (1, z_i c)] [z_i (w' a 3), z_r a, z_r v'] (sh', w') Q
  rw [h3']
  refine z_dup_x1 dJ5_append_3fe6f_33 rfl rfl ?_
  refine z_iconst dJ5_append_3fe6f_34 (by decide) ?_
  refine z_iadd dJ5_append_3fe6f_35 ⟨by omega, by omega⟩ ?_
  refine z_putI (ki := 3) zfRJ5_79 dJ5_append_3fe6f_36 hs'.1 rfl rfl ?_
  refine z_genw (fun w2 hw2 => ?_)
  refine z_iload_n 1 dJ5_append_3fe6f_39 rfl rfl ?_
  refine z_i2b dJ5_append_3fe6f_40 ?_
  rw [z_b128' hc]
  refine z_bast dJ5_append_3fe6f_41 hs'.2 ⟨hn.1, by omega⟩ (z_b128' hc) ?_
  refine z_genw (fun w3 hw3 => ?_)
  refine z_goto (tgt := 75) dJ5_append_3fe6f_42 (by decide) ?_
  refine z_aload_n 0 dJ5_append_3fe6f_75 rfl rfl ?_
  subst hw3 hw2
  exact z_ret (v := some (z_r a)) dJ5_append_3fe6f_76 ⟨rfl, _, rfl, Or.inl ⟨_, rfl⟩⟩ rfl (h sh' w' v' m' hg)
theorem t_J4_appendC {a v m k : Nat} {n c : Int} (hs : z_isSb sh a v m) (h1 : w a 1 = 0) (h3 : w a 3 = n) (hn : 0 ≤ n ∧ n ≤ m) (hc : 0 ≤ c ∧ c < 128) (hm : m ≤ 20000) (hk1 : 1 ≤ k) (hk : (m : Int) < n + 1 → (m : Int) + max (n + 1 - m) (m + 2) ≤ k) (hsl : sh.length < 1000) (hlo : z_cls0 sh) (hb : ∀ j : Int, 0 ≤ j → j < m → 0 ≤ w v j ∧ w v j < 128)
    (h : ∀ (sh' : List z_C) (w' : z_Mm) (v' m' : Nat), z_gr sh w a v m (n + 1) sh' w' v' m' → Q (some (z_r a)) (sh', z_W (z_W w' a 3 (n + 1)) v' n c)) : z_Sem (mJ4_append_cf468 k) (sh.length, 0) 0 [(0, z_r a), (1, z_i c)] [] (sh, w) Q := by
  have hal := z_ltat hs.1
  refine z_aload_n 0 dJ4_append_cf468_0 rfl rfl ?_
  refine z_iload_n 1 dJ4_append_cf468_1 rfl rfl ?_
  refine z_callA (M' := mJ5_append_3fe6f k) (vs := [z_r a, z_i c]) (rest := []) (z_invSU (C := RJ4) (As := [z_i c]) z_cl10 zmJ5_append_3fe6f znJ5_append_3fe6f zqJ5_append_3fe6f zuRJ4 (show yJ5_append_3fe6f.name ≠ "<init>" by decide) zlRJ4_50' ⟨Nat.le_of_ble_eq_true rfl, Nat.le_of_ble_eq_true rfl⟩ dJ4_append_cf468_2 rfl) zwJ5_append_3fe6f.2.2.2.2 (fun G p s m args meth c H locs hX hP => z_recC (σ := (sh, w)) z_cl10 hs.1 hX hP) rfl (z_ar (z_ai z_a0)) (Nat.le_of_ble_eq_true rfl) (Nat.le_of_ble_eq_true rfl) (z_lv2 hal) (fun q hq => by cases hq) (Nat.le_refl _) (by show k ≠ 0; omega) (by show 0 + k ≤ k ∧ 0 + k ≤ k; omega) ?_
  refine t_J5_appendC hs h1 h3 hn hc hm hk1 hk hsl hlo hb (fun sh' w' v' m' hg => ?_)
  show z_Sem (mJ4_append_cf468 k) (sh.length, 0 + k) 5 [(0, z_r a), (1, z_i c)] [z_r a] (sh', z_W (z_W w' a 3 (n + 1)) v' n c) Q
  refine z_pop dJ4_append_cf468_5 rfl ?_
  refine z_aload_n 0 dJ4_append_cf468_6 rfl rfl ?_
  exact z_ret (v := some (z_r a)) dJ4_append_cf468_7 ⟨rfl, _, rfl, Or.inl ⟨_, rfl⟩⟩ rfl (h sh' w' v' m' hg)
theorem z_lvrr {n a x : Nat} {i j : Nat} (h : a < n) (hx : x < n ∨ 1000 ≤ x) : z_lv n [(i, z_r a), (j, z_r x)] := by
  intro q hq
  simp only [List.mem_cons, List.not_mem_nil, or_false] at hq
  rcases hq with rfl | rfl
  · exact Or.inl h
  · exact hx
theorem z_isx.vv {x : Nat} {t : List Int} (hx : z_isx sh w x t) : x < sh.length ∨ 1000 ≤ x := by
  rcases hx.2 with ⟨s0, h1, rfl, -⟩ | ⟨v, h1, -⟩
  · omega
  · exact Or.inl (z_ltat h1.1)
/-- append(String) -/
theorem t_J5_appendS {a v m k x : Nat} {n : Int} {t : List Int} (hs : z_isSb sh a v m) (h1 : w a 1 = 0) (h3 : w a 3 = n) (hn : 0 ≤ n ∧ n ≤ m) (hx : z_isx sh w x t) (ht : t.length ≤ 1000) (hm : m ≤ 20000) (hk1 : 1 ≤ k) (hk : (m : Int) < n + t.length → (m : Int) + max (n + t.length - m) (m + 2) ≤ k) (hsl : sh.length < 1000) (hlo : z_cls0 sh) (hb : ∀ j : Int, 0 ≤ j → j < m → 0 ≤ w v j ∧ w v j < 128)
    (h : ∀ (sh' : List z_C) (w' : z_Mm) (v' m' : Nat), z_gr sh w a v m (n + t.length) sh' w' v' m' → Q (some (z_r a)) (sh', z_W (z_put w' v' n t) a 3 (n + t.length))) : z_Sem (mJ5_append_cf1ce k) (sh.length, 0) 0 [(0, z_r a), (1, z_r x)] [] (sh, w) Q := by
  have hal := z_ltat hs.1
  refine z_aload_n 1 dJ5_append_cf1ce_0 rfl rfl ?_
  refine z_nonnull (tgt := 9) dJ5_append_cf1ce_1 (by decide) ?_
  refine z_aload_n 1 dJ5_append_cf1ce_9 rfl rfl ?_
  refine z_callN (vs := [z_r x]) (rest := []) (z_invV (C := "java/lang/String") (As := []) zmJ0_length_8abf5 znJ0_length_8abf5 zsJ0_length_8abf5 zlRJ5_32 ⟨Nat.le_of_ble_eq_true rfl, Nat.le_of_ble_eq_true rfl⟩ dJ5_append_cf1ce_10 rfl) zmJ0_length_8abf5.2.2.2.2 (fun G p s m args meth c H locs hX hP => z_recx hx hX hP) rfl (z_ar z_a0) (Nat.le_of_ble_eq_true rfl) (Nat.le_of_ble_eq_true rfl) ⟨rfl, rfl⟩ ?_
  refine t_J0_lengthX hx (by omega) ?_
  show z_Sem (mJ5_append_cf1ce k) (sh.length, 0) 13 [(0, z_r a), (1, z_r x)] [z_i (t.length : Int)] (sh, w) Q
  refine z_istore_n (L' := [(2, z_i (t.length : Int)), (0, z_r a), (1, z_r x)]) dJ5_append_cf1ce_13 rfl (z_ltk rfl) rfl ?_
  refine z_aload_n 1 dJ5_append_cf1ce_14 rfl rfl ?_
  refine z_aload_n 1 dJ5_append_cf1ce_15 rfl rfl ?_
  refine z_getI (ki := 3) zfRJ5_79 dJ5_append_cf1ce_16 hs.1 rfl rfl ?_
  show z_Sem (mJ5_append_cf1ce k) (sh.length, 0) 19 [(2, z_i (t.length : Int)), (0, z_r a), (1, z_r x)] [z_i (w a 3), z_r a] (sh, w) Q
  rw [h3]
  refine z_iload_n 0 dJ5_append_cf1ce_19 rfl rfl ?_
  refine z_iadd dJ5_append_cf1ce_20 ⟨by omega, by omega⟩ ?_
  refine z_ensure rfl hs h1 (by omega) ⟨by omega, by omega⟩ hk1 hk hsl hlo hb (fun q hq => ?_) ⟨rfl, rfl⟩ ⟨Nat.le_of_ble_eq_true rfl, Nat.le_of_ble_eq_true rfl⟩ dJ5_append_cf1ce_21 (fun sh' w' v' m' hg => ?_)
  · simp only [List.mem_cons, List.not_mem_nil, or_false] at hq
    rcases hq with rfl | rfl | rfl
    · exact True.intro
    · exact Or.inl hal
    · exact hx.vv
  obtain ⟨hs', hq', hwa, hav⟩ := hg.sb hs
  have hx' := hg.isx hs hx
  have h1' : w' a 1 = 0 := by rw [hwa]; exact h1
  have h3' : w' a 3 = n := by rw [hwa]; exact h3
  show z_Sem (mJ5_append_cf1ce k) (sh.length, k) 24 [(2, z_i (t.length : Int)), (0, z_r a), (1, z_r x)] [] (sh', w') Q
  refine z_aload_n 1 dJ5_append_cf1ce_24 rfl rfl ?_
  refine z_aload_n 1 dJ5_append_cf1ce_25 rfl rfl ?_
  refine z_getI (ki := 3) zfRJ5_79 dJ5_append_cf1ce_26 hs'.1 rfl rfl ?_
  show z_Sem (mJ5_append_cf1ce k) (sh.length, k) 29 [(2, z_i (t.length : Int)), (0, z_r a), (1, z_r x)] [z_i (w' a 3), z_r a] (sh', w') Q
  rw [h3']
  refine z_aload_n 2 dJ5_append_cf1ce_29 rfl rfl ?_
  refine z_callV (As := [z_i n, z_r x]) (rest := []) zmJ5_putStringAt_47b60 znJ5_putStringAt_47b60 zsJ5_putStringAt_47b60 z_cl10 zlRJ5_208 ⟨Nat.le_of_ble_eq_true rfl, Nat.le_of_ble_eq_true rfl⟩ dJ5_append_cf1ce_30 hs'.1 rfl rfl (z_ai (z_ar z_a0)) (Nat.le_of_ble_eq_true rfl) (Nat.le_of_ble_eq_true rfl) ⟨rfl, rfl⟩ ?_
  refine t_J5_putStringAt hs' h1' hx' (by omega) ⟨hn.1, hq'⟩ ⟨by omega, by omega⟩ ?_
  show z_Sem (mJ5_append_cf1ce k) (sh.length, k) 33 [(2, z_i (t.length : Int)), (0, z_r a), (1, z_r x)] [] (sh', z_put w' v' n t) Q
  refine z_aload_n 1 dJ5_append_cf1ce_33 rfl rfl ?_
  refine z_dup dJ5_append_cf1ce_34 rfl ?_
  refine z_getI (ki := 3) zfRJ5_79 dJ5_append_cf1ce_35 hs'.1 rfl rfl ?_
  have h3p : z_put w' v' n t a 3 = n := by
    show (if a = v' ∧ _ then _ else _) = _
    rw [if_neg (fun c => hav c.1)]
    exact h3'
  show z_Sem (mJ5_append_cf1ce k) (sh.length, k) 38 [(2, z_i (t.length : Int)), (0, z_r a), (1, z_r x)] [z_i (z_put w' v' n t a 3), z_r a] (sh', z_put w' v' n t) Q
  rw [h3p]
  refine z_iload_n 0 dJ5_append_cf1ce_38 rfl rfl ?_
  refine z_iadd dJ5_append_cf1ce_39 ⟨by omega, by omega⟩ ?_
  refine z_putI (ki := 3) zfRJ5_79 dJ5_append_cf1ce_40 hs'.1 rfl rfl ?_
  refine z_genw (fun w2 hw2 => ?_)
  refine z_aload_n 1 dJ5_append_cf1ce_43 rfl rfl ?_
  subst hw2
  exact z_ret (v := some (z_r a)) dJ5_append_cf1ce_44 ⟨rfl, _, rfl, Or.inl ⟨_, rfl⟩⟩ rfl (h sh' w' v' m' hg)
theorem t_J4_appendS {a v m k x : Nat} {n : Int} {t : List Int} (hs : z_isSb sh a v m) (h1 : w a 1 = 0) (h3 : w a 3 = n) (hn : 0 ≤ n ∧ n ≤ m) (hx : z_isx sh w x t) (ht : t.length ≤ 1000) (hm : m ≤ 20000) (hk1 : 1 ≤ k) (hk : (m : Int) < n + t.length → (m : Int) + max (n + t.length - m) (m + 2) ≤ k) (hsl : sh.length < 1000) (hlo : z_cls0 sh) (hb : ∀ j : Int, 0 ≤ j → j < m → 0 ≤ w v j ∧ w v j < 128)
    (h : ∀ (sh' : List z_C) (w' : z_Mm) (v' m' : Nat), z_gr sh w a v m (n + t.length) sh' w' v' m' → Q (some (z_r a)) (sh', z_W (z_put w' v' n t) a 3 (n + t.length))) : z_Sem (mJ4_append_15ec4 k) (sh.length, 0) 0 [(0, z_r a), (1, z_r x)] [] (sh, w) Q := by
  have hal := z_ltat hs.1
  refine z_aload_n 0 dJ4_append_15ec4_0 rfl rfl ?_
  refine z_aload_n 1 dJ4_append_15ec4_1 rfl rfl ?_
  refine z_callA (M' := mJ5_append_cf1ce k) (vs := [z_r a, z_r x]) (rest := []) (z_invSU (C := RJ4) (As := [z_r x]) z_cl10 zmJ5_append_cf1ce znJ5_append_cf1ce zqJ5_append_cf1ce zuRJ4 (show yJ5_append_3fe6f.name ≠ "<init>" by decide) zlRJ4_29' ⟨Nat.le_of_ble_eq_true rfl, Nat.le_of_ble_eq_true rfl⟩ dJ4_append_15ec4_2 rfl) zwJ5_append_cf1ce.2.2.2.2 (fun G p s m args meth c H locs hX hP => z_recC (σ := (sh, w)) z_cl10 hs.1 hX hP) rfl (z_ar (z_ar z_a0)) (Nat.le_of_ble_eq_true rfl) (Nat.le_of_ble_eq_true rfl) (z_lvrr hal hx.vv) (fun q hq => by cases hq) (Nat.le_refl _) (by show k ≠ 0; omega) (by show 0 + k ≤ k ∧ 0 + k ≤ k; omega) ?_
  refine t_J5_appendS hs h1 h3 hn hx ht hm hk1 hk hsl hlo hb (fun sh' w' v' m' hg => ?_)
  show z_Sem (mJ4_append_15ec4 k) (sh.length, 0 + k) 5 [(0, z_r a), (1, z_r x)] [z_r a] (sh', z_W (z_put w' v' n t) a 3 (n + t.length)) Q
  refine z_pop dJ4_append_15ec4_5 rfl ?_
  refine z_aload_n 0 dJ4_append_15ec4_6 rfl rfl ?_
  exact z_ret (v := some (z_r a)) dJ4_append_15ec4_7 ⟨rfl, _, rfl, Or.inl ⟨_, rfl⟩⟩ rfl (h sh' w' v' m' hg)
end ZJDK2
