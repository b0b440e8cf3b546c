/-! STRINGS OUT OF BUILDERS -/
set_option maxRecDepth 100000 in
theorem zl_cl1 : Cond.methodLink RJ7 310 ⟨"[B", "clone", "()Ljava/lang/Object;"⟩ ∈ z_tb := by
  first | exact z_w1 769 (Eq.refl _) (by decide +kernel) | exact z_w1 770 (Eq.refl _) (by decide +kernel) | exact z_w1 771 (Eq.refl _) (by decide +kernel) | exact z_w1 772 (Eq.refl _) (by decide +kernel) | exact z_w1 773 (Eq.refl _) (by decide +kernel) | exact z_w1 774 (Eq.refl _) (by decide +kernel) | exact z_w1 768 (Eq.refl _) (by decide +kernel) | exact z_w1 775 (Eq.refl _) (by decide +kernel)
set_option maxRecDepth 100000 in
theorem zl_cl2 : Cond.sameMethod "[B" "java/lang/Object" "clone" "()Ljava/lang/Object;" ∈ z_tb := by
  first | exact z_w1 769 (Eq.refl _) (by decide +kernel) | exact z_w1 770 (Eq.refl _) (by decide +kernel) | exact z_w1 771 (Eq.refl _) (by decide +kernel) | exact z_w1 772 (Eq.refl _) (by decide +kernel) | exact z_w1 773 (Eq.refl _) (by decide +kernel) | exact z_w1 774 (Eq.refl _) (by decide +kernel) | exact z_w1 768 (Eq.refl _) (by decide +kernel) | exact z_w1 775 (Eq.refl _) (by decide +kernel)
set_option maxRecDepth 100000 in
theorem zl_cl3 : Cond.native ⟨"java/lang/Object", "clone", "()Ljava/lang/Object;"⟩ ∈ z_tb := by
  first | exact z_w1 769 (Eq.refl _) (by decide +kernel) | exact z_w1 770 (Eq.refl _) (by decide +kernel) | exact z_w1 771 (Eq.refl _) (by decide +kernel) | exact z_w1 772 (Eq.refl _) (by decide +kernel) | exact z_w1 773 (Eq.refl _) (by decide +kernel) | exact z_w1 774 (Eq.refl _) (by decide +kernel) | exact z_w1 768 (Eq.refl _) (by decide +kernel) | exact z_w1 775 (Eq.refl _) (by decide +kernel)
set_option maxRecDepth 100000 in
theorem zl_cl4 : Cond.instanceMethod ⟨"java/lang/Object", "clone", "()Ljava/lang/Object;"⟩ ∈ z_tb := by
  first | exact z_w1 769 (Eq.refl _) (by decide +kernel) | exact z_w1 770 (Eq.refl _) (by decide +kernel) | exact z_w1 771 (Eq.refl _) (by decide +kernel) | exact z_w1 772 (Eq.refl _) (by decide +kernel) | exact z_w1 773 (Eq.refl _) (by decide +kernel) | exact z_w1 774 (Eq.refl _) (by decide +kernel) | exact z_w1 768 (Eq.refl _) (by decide +kernel) | exact z_w1 775 (Eq.refl _) (by decide +kernel)
set_option maxRecDepth 100000 in
theorem zl_cl5 : Cond.selects "[B" ⟨"[B", "clone", "()Ljava/lang/Object;"⟩ ⟨"java/lang/Object", "clone", "()Ljava/lang/Object;"⟩ ∈ z_tb := by
  first | exact z_w1 769 (Eq.refl _) (by decide +kernel) | exact z_w1 770 (Eq.refl _) (by decide +kernel) | exact z_w1 771 (Eq.refl _) (by decide +kernel) | exact z_w1 772 (Eq.refl _) (by decide +kernel) | exact z_w1 773 (Eq.refl _) (by decide +kernel) | exact z_w1 774 (Eq.refl _) (by decide +kernel) | exact z_w1 768 (Eq.refl _) (by decide +kernel) | exact z_w1 775 (Eq.refl _) (by decide +kernel)
set_option maxRecDepth 100000 in
theorem zl_cl6 : Cond.castable "[B" "java/lang/Cloneable" ∈ z_tn := by
  first | exact z_w2 769 (Eq.refl _) (by decide +kernel) | exact z_w2 770 (Eq.refl _) (by decide +kernel) | exact z_w2 771 (Eq.refl _) (by decide +kernel) | exact z_w2 772 (Eq.refl _) (by decide +kernel) | exact z_w2 773 (Eq.refl _) (by decide +kernel) | exact z_w2 774 (Eq.refl _) (by decide +kernel) | exact z_w2 768 (Eq.refl _) (by decide +kernel) | exact z_w2 775 (Eq.refl _) (by decide +kernel)
set_option maxRecDepth 100000 in
theorem zl_cl7 : Cond.classLink RJ7 311 "[B" ∈ z_tb := by
  first | exact z_w1 769 (Eq.refl _) (by decide +kernel) | exact z_w1 770 (Eq.refl _) (by decide +kernel) | exact z_w1 771 (Eq.refl _) (by decide +kernel) | exact z_w1 772 (Eq.refl _) (by decide +kernel) | exact z_w1 773 (Eq.refl _) (by decide +kernel) | exact z_w1 774 (Eq.refl _) (by decide +kernel) | exact z_w1 768 (Eq.refl _) (by decide +kernel) | exact z_w1 775 (Eq.refl _) (by decide +kernel)
set_option maxRecDepth 100000 in
theorem zlRJ4_343' : Cond.methodLink RJ4 343 yJ5_length_8abf5 ∈ z_tb := z_w1 919 (Eq.refl _) (by decide +kernel)
abbrev mJ5is (k : Nat) : z_M := (yJ5_init_a7421, cJ5_init_a7421, 5, none, { frames := 8, cells := k, slots := k, locals := 178 })
abbrev mJ4is (k : Nat) : z_M := (yJ4_init_a7421, cJ4_init_a7421, 2, none, { frames := 9, cells := k, slots := k, locals := 202 })
theorem zmJ5is {k : Nat} : z_me (mJ5is k) 1 := zwJ5_init_a7421
theorem zmJ4is {k : Nat} : z_me (mJ4is k) 1 := zwJ4_init_a7421
theorem z_tx.cg {w w' : z_Mm} {v : Nat} {t : List Int} (h : z_tx w v t) (e : w' v = w v) : z_tx w' v t := fun k b hk => by rw [e]; exact h k b hk
section ZJDK5
variable {sh : List z_C} {w : z_Mm} {Q : Option z_V → z_S → Prop}
theorem t_J5_initS {a x k : Nat} {t : List Int} (ha : sh[a]? = some z_sb0) (h30 : w a 3 = 0) (hx : z_isx sh w x t) (ht : t.length ≤ 1000) (hk : t.length + 17 ≤ k) (hsl : sh.length < 998) (hlo : z_cls0 sh)
    (h : ∀ w' : z_Mm, (∀ j : Int, 0 ≤ j → j < (t.length : Int) + 16 → 0 ≤ w' sh.length j ∧ w' sh.length j < 128) → z_tx w' sh.length t → w' a 1 = 0 → w' a 3 = (t.length : Int) → (∀ b, b ≠ sh.length → b ≠ a → w' b = w b) → Q none (sh.set a (z_sbc sh.length) ++ [.inr (.inl (2, t.length + 16))], w')) : z_Sem (mJ5is k) (sh.length, 0) 0 [(0, z_r a), (1, z_r x)] [] (sh, w) Q := by
  have hal := z_ltat ha
  have hxa : x ≠ a := fun e => by
    subst e
    rcases hx.2 with ⟨s0, h1, h2, -⟩ | ⟨v, h1, -⟩
    · omega
    · have := h1.1.symm.trans ha; cases this
  have hLv : ∀ (n : Nat), a < n → (x < n ∨ 1000 ≤ x) → ∀ (l : List (Nat × z_V)), (∀ q ∈ l, ∃ y : Int, q.2 = z_i y) → z_lv n (l ++ [(0, z_r a), (1, z_r x)]) := fun n h1 h2 l hl q hq => by
    rcases List.mem_append.mp hq with h3 | h3
    · obtain ⟨y, hy⟩ := hl q h3
      rw [hy]; exact True.intro
    · exact z_lvrr h1 h2 q h3
  refine z_aload_n 0 dJ5_init_a7421_0 rfl rfl ?_
  refine z_objInit zORJ5_3 z_oin z_oco ⟨z_lek rfl, z_lek rfl⟩ dJ5_init_a7421_1 ?_
  refine z_aload_n 1 dJ5_init_a7421_4 rfl rfl ?_
  refine z_callN (vs := [z_r x]) (rest := []) (z_invV (C := "java/lang/String") (As := []) zmJ0_length_8abf5 znJ0_length_8abf5 zsJ0_length_8abf5 zlRJ5_32 ⟨z_lek rfl, z_lek rfl⟩ dJ5_init_a7421_5 rfl) zmJ0_length_8abf5.2.2.2.2 (fun G p s m args meth c H locs hX hP => z_recx hx hX hP) rfl (z_ar z_a0) (z_lek rfl) (z_lek rfl) ⟨rfl, rfl⟩ ?_
  refine t_J0_lengthX hx (by omega) ?_
  show z_Sem (mJ5is k) (sh.length, 0) 8 [(0, z_r a), (1, z_r x)] [z_i (t.length : Int)] (sh, w) Q
  refine z_istore_n (L' := [(2, z_i (t.length : Int)), (0, z_r a), (1, z_r x)]) dJ5_init_a7421_8 rfl (z_ltk rfl) rfl ?_
  refine z_iload_n 0 dJ5_init_a7421_9 rfl rfl ?_
  refine z_ldc (n := 2147483631) zkRJ5_38 dJ5_init_a7421_10 (by decide) (by decide) ?_
  refine z_icmp_ge (tgt := 22) dJ5_init_a7421_12 (by decide) (fun c => absurd c (by omega)) (fun _ => ?_)
  refine z_iload_n 0 dJ5_init_a7421_15 rfl rfl ?_
  refine z_bipush dJ5_init_a7421_16 (by decide) (by decide) ?_
  refine z_iadd dJ5_init_a7421_18 ⟨by omega, by omega⟩ ?_
  refine z_goto (tgt := 24) dJ5_init_a7421_19 (by decide) ?_
  refine z_istore_n (L' := [(3, z_i ((t.length : Int) + 16)), (2, z_i (t.length : Int)), (0, z_r a), (1, z_r x)]) dJ5_init_a7421_24 rfl (z_ltk rfl) rfl ?_
  refine z_aload_n 3 dJ5_init_a7421_25 rfl rfl ?_
  refine z_callN (vs := [z_r x]) (rest := []) (z_invV (C := "java/lang/String") (As := []) zmJ0_coder_7d493 znJ0_coder_7d493 zsJ0_coder_7d493 zlRJ5_40 ⟨z_lek rfl, z_lek rfl⟩ dJ5_init_a7421_26 rfl) zmJ0_coder_7d493.2.2.2.2 (fun G p s m args meth c H locs hX hP => z_recx hx hX hP) rfl (z_ar z_a0) (z_lek rfl) (z_lek rfl) ⟨rfl, rfl⟩ ?_
  refine t_J0_coderX hx ?_
  show z_Sem (mJ5is k) (sh.length, 0) 29 [(3, z_i ((t.length : Int) + 16)), (2, z_i (t.length : Int)), (0, z_r a), (1, z_r x)] [z_i 0] (sh, w) Q
  refine z_istore (L' := [(4, z_i 0), (3, z_i ((t.length : Int) + 16)), (2, z_i (t.length : Int)), (0, z_r a), (1, z_r x)]) dJ5_init_a7421_29 (z_ltk rfl) rfl ?_
  refine z_aload_n 3 dJ5_init_a7421_31 rfl rfl ?_
  refine z_iload 0 dJ5_init_a7421_32 rfl ?_
  refine z_putV (k := 1) zfRJ5_22 (by decide) (by decide) dJ5_init_a7421_34 ha rfl ?_
  show z_Sem (mJ5is k) (sh.length, 0) 37 _ [] (sh, z_W w a ((1 : Nat) : Int) 0) Q
  refine z_genw (fun w0 hw0 => ?_)
  have hx0 : z_isx sh w0 x t := by
    subst hw0
    refine ⟨hx.1, ?_⟩
    rcases hx.2 with h1 | ⟨v, h1, h2, h3⟩
    · exact Or.inl h1
    · have hva : v ≠ a := fun e => by subst e; have := h1.2.symm.trans ha; cases this
      exact Or.inr ⟨v, h1, by rw [z_Wf hxa]; exact h2, z_tx.cg h3 (z_Wf hva)⟩
  have e30 : w0 a 3 = 0 := by
    subst hw0
    show (if a = a ∧ (3 : Int) = ((1 : Nat) : Int) then (0 : Int) else w a 3) = 0
    rw [if_neg (fun q => absurd q.2 (by decide))]; exact h30
  have e10 : w0 a 1 = 0 := by
    subst hw0
    show (if a = a ∧ (1 : Int) = ((1 : Nat) : Int) then (0 : Int) else w a 1) = 0
    rw [if_pos ⟨rfl, rfl⟩]
  have ef : ∀ b, b ≠ a → w0 b = w b := fun b hb => by subst hw0; exact z_Wf hb
  refine z_aload_n 3 dJ5_init_a7421_37 rfl rfl ?_
  refine z_iload 0 dJ5_init_a7421_38 rfl ?_
  refine z_if_ne (tgt := 49) dJ5_init_a7421_40 (by decide) (fun c => absurd rfl c) (fun _ => ?_)
  refine z_iload_n 1 dJ5_init_a7421_43 rfl rfl ?_
  rw [show ((t.length : Int) + 16) = ((t.length + 16 : Nat) : Int) by omega]
  refine z_newa (N := t.length + 16) (kd := 2) (Or.inr (Or.inr ⟨rfl, rfl⟩)) z_awb (by omega) (show sh.length < 1000 by omega) hlo (hLv _ hal hx.vv [_, _, _] (fun q hq => by
    simp only [List.mem_cons, List.not_mem_nil, or_false] at hq
    rcases hq with rfl | rfl | rfl <;> exact ⟨_, rfl⟩)) (fun q hq => by rw [List.mem_singleton.mp hq]; exact Or.inl hal) (by omega) ⟨by show 0 + (t.length + 16) ≤ k; omega, by show 0 + (t.length + 16) ≤ k; omega⟩ dJ5_init_a7421_44 ?_
  refine z_gennw (fun w1 hw1 hw2 => ?_)
  refine z_goto (tgt := 53) dJ5_init_a7421_46 (by decide) ?_
  refine z_putR zoRJ5_15 (fun c => by cases c) (fun b => ⟨rfl, rfl⟩) dJ5_init_a7421_53 (z_leftat ha) (z_ltk rfl) ?_
  show z_Sem _ _ _ _ _ (z_u (sh ++ [.inr (.inl (2, t.length + 16))], w1) a (z_sbc sh.length) (w1 a)) Q
  rw [z_u_sh, List.set_append_left _ _ hal]
  have hsb : z_isSb (sh.set a (z_sbc sh.length) ++ [.inr (.inl (2, t.length + 16))]) a sh.length (t.length + 16) := by
    refine ⟨?_, ?_⟩
    · rw [List.getElem?_append_left (by rw [List.length_set]; exact hal), List.getElem?_set_self hal]
    · rw [List.getElem?_append_right (by rw [List.length_set]; exact Nat.le_refl _), List.length_set, Nat.sub_self]; rfl
  have hx1 : z_isx (sh.set a (z_sbc sh.length) ++ [.inr (.inl (2, t.length + 16))]) w1 x t := by
    refine ⟨hx.1, ?_⟩
    rcases hx0.2 with h1 | ⟨v, h1, h2, h3⟩
    · exact Or.inl h1
    · have hva : v ≠ a := fun e => by subst e; have := h1.2.symm.trans ha; cases this
      have l1 := z_ltat h1.1
      have l2 := z_ltat h1.2
      refine Or.inr ⟨v, ⟨?_, ?_⟩, by rw [hw2 x (by omega)]; exact h2, z_tx.cg h3 (hw2 v (by omega))⟩
      · rw [List.getElem?_append_left (by rw [List.length_set]; exact l1), List.getElem?_set_ne (Ne.symm hxa)]; exact h1.1
      · rw [List.getElem?_append_left (by rw [List.length_set]; exact l2), List.getElem?_set_ne (Ne.symm hva)]; exact h1.2
  have hlen : (sh.set a (z_sbc sh.length) ++ [(.inr (.inl (2, t.length + 16)) : z_C)]).length = sh.length + 1 := by rw [List.length_append, List.length_set]; rfl
  refine z_aload_n 3 dJ5_init_a7421_56 rfl rfl ?_
  refine z_aload_n 4 dJ5_init_a7421_57 rfl rfl ?_
  refine z_callA (M' := mJ4_append_cf1ce 1) (vs := [z_r a, z_r x]) (rest := []) (z_invO (C := RJ4) (As := [z_r x]) zmJ4_append_cf1ce znJ4_append_cf1ce znJ5_append_cf1ce zwJ5_append_cf1ce.1 zwJ5_append_cf1ce.2.2.1 zwJ5_append_cf1ce.2.2.2.1 zqJ5_append_cf1ce zxJ4_append_cf1ce zlRJ5_43' ⟨z_lek rfl, z_lek rfl⟩ dJ5_init_a7421_58 rfl) zwJ4_append_cf1ce.2.2.2.2 (fun G p s m args meth c H locs hX hP => z_recC (σ := (_, w1)) z_cl10 hsb.1 hX hP) rfl (z_ar (z_ar z_a0)) (z_lek rfl) (z_lek rfl) ?_ (fun q hq => by cases hq) (Nat.le_refl _) (by show k ≠ 0; omega) (by show 0 + (t.length + 16) + 1 ≤ k ∧ 0 + (t.length + 16) + 1 ≤ k; omega) ?_
  · show z_lv _ ([(4, z_i 0), (3, z_i ((t.length + 16 : Nat) : Int)), (2, z_i (t.length : Int))] ++ [(0, z_r a), (1, z_r x)])
    exact hLv _ (by show a < (sh.set a (z_sbc sh.length) ++ [(.inr (.inl (2, t.length + 16)) : z_C)]).length; omega) (by show x < (sh.set a (z_sbc sh.length) ++ [(.inr (.inl (2, t.length + 16)) : z_C)]).length ∨ 1000 ≤ x; have := hx.vv; omega) [_, _, _] (fun q hq => by
      simp only [List.mem_cons, List.not_mem_nil, or_false] at hq
      rcases hq with rfl | rfl | rfl <;> exact ⟨_, rfl⟩)
  · refine t_J4_appendB (m := t.length + 16) (n := 0) hsb (by rw [hw2 a (by omega)]; exact e10) (by rw [hw2 a (by omega)]; exact e30) ⟨by omega, by omega⟩ hx1 ht (by omega) (Nat.le_refl _) (fun c => absurd c (by omega)) (by rw [hlen]; omega) (z_cls0_set hlo (by omega)) (fun j j0 j1 => by rw [hw1]; decide) (fun sh' w' v' m' hg => ?_)
    rcases hg with ⟨rfl, rfl, rfl, rfl, -⟩ | ⟨hc, -⟩
    · refine z_pop dJ5_init_a7421_61 rfl ?_
      refine z_ret (v := none) dJ5_init_a7421_62 ⟨rfl, rfl⟩ rfl (h _ (fun j j0 j1 => ?_) (fun q b hq => ?_) ?_ ?_ (fun b hb hba => ?_))
      · show 0 ≤ (if sh.length = a ∧ j = 3 then _ else z_put w' sh.length 0 t sh.length j) ∧ (if sh.length = a ∧ j = 3 then _ else z_put w' sh.length 0 t sh.length j) < 128
        rw [if_neg (by omega)]
        show 0 ≤ (if sh.length = sh.length ∧ 0 ≤ j ∧ j < 0 + (t.length : Int) then (t[(j - 0).toNat]?).getD 0 else w' sh.length j) ∧ (if sh.length = sh.length ∧ 0 ≤ j ∧ j < 0 + (t.length : Int) then (t[(j - 0).toNat]?).getD 0 else w' sh.length j) < 128
        split
        · rename_i c
          rw [List.getElem?_eq_getElem (by omega : (j - 0).toNat < t.length)]
          exact hx.1 _ (List.getElem_mem _)
        · rw [hw1]; decide
      · have hq2 := (List.getElem?_eq_some_iff.mp hq).1
        show (if sh.length = a ∧ (q : Int) = 3 then _ else z_put w' sh.length 0 t sh.length (q : Int)) = b
        rw [if_neg (by omega)]
        show (if sh.length = sh.length ∧ 0 ≤ (q : Int) ∧ (q : Int) < 0 + (t.length : Int) then (t[((q : Int) - 0).toNat]?).getD 0 else w' sh.length (q : Int)) = b
        rw [if_pos ⟨rfl, by omega, by omega⟩, show ((q : Int) - 0).toNat = q by omega, hq]
        rfl
      · show (if a = a ∧ (1 : Int) = 3 then _ else z_put w' sh.length 0 t a 1) = 0
        rw [if_neg (fun q => absurd q.2 (by decide))]
        show (if a = sh.length ∧ _ then _ else w' a 1) = 0
        rw [if_neg (fun q => by have := q.1; omega), hw2 a (by omega)]
        exact e10
      · show (if a = a ∧ (3 : Int) = 3 then (0 : Int) + t.length else _) = (t.length : Int)
        rw [if_pos ⟨rfl, rfl⟩]; omega
      · funext j
        show (if b = a ∧ j = 3 then _ else z_put w' sh.length 0 t b j) = w b j
        rw [if_neg (fun q => hba q.1)]
        show (if b = sh.length ∧ _ then _ else w' b j) = w b j
        rw [if_neg (fun q => hb q.1), hw2 b hb, ef b hba]
    · exact absurd hc (by omega)
theorem t_J4_initS {a x k : Nat} {t : List Int} (ha : sh[a]? = some z_sb0) (h30 : w a 3 = 0) (hx : z_isx sh w x t) (ht : t.length ≤ 1000) (hk : t.length + 17 ≤ k) (hsl : sh.length < 998) (hlo : z_cls0 sh)
    (h : ∀ w' : z_Mm, (∀ j : Int, 0 ≤ j → j < (t.length : Int) + 16 → 0 ≤ w' sh.length j ∧ w' sh.length j < 128) → z_tx w' sh.length t → w' a 1 = 0 → w' a 3 = (t.length : Int) → (∀ b, b ≠ sh.length → b ≠ a → w' b = w b) → Q none (sh.set a (z_sbc sh.length) ++ [.inr (.inl (2, t.length + 16))], w')) : z_Sem (mJ4is k) (sh.length, 0) 0 [(0, z_r a), (1, z_r x)] [] (sh, w) Q := by
  have hal := z_ltat ha
  refine z_aload_n 0 dJ4_init_a7421_0 rfl rfl ?_
  refine z_aload_n 1 dJ4_init_a7421_1 rfl rfl ?_
  refine z_callA (M' := mJ5is k) (vs := [z_r a, z_r x]) (rest := []) (z_invI (As := [z_r x]) zmJ5is znJ5_init_a7421 rfl rfl zlRJ4_7 ⟨z_lek rfl, z_lek rfl⟩ dJ4_init_a7421_2 rfl) zwJ5_init_a7421.2.2.2.2 (fun _ _ _ _ _ _ _ _ _ _ _ => True.intro) rfl (z_ar (z_ar z_a0)) (z_lek rfl) (z_lek rfl) (z_lvrr hal hx.vv) (fun q hq => by cases hq) (Nat.le_refl _) (by show k ≠ 0; omega) (by show 0 + k ≤ k ∧ 0 + k ≤ k; omega) ?_
  refine t_J5_initS ha h30 hx ht hk hsl hlo (fun w' g1 g2 g3 g4 g5 => ?_)
  exact z_ret (v := none) dJ4_init_a7421_5 ⟨rfl, rfl⟩ rfl (h w' g1 g2 g3 g4 g5)
end ZJDK5
