/-! BUILDERS MADE, STRINGS MADE -/
abbrev z_sb0 : z_C := .inl (10, [some none, none, none, none])
theorem z_flJ4 : (([some none, none, none, none] : List (Option (Option Nat))).length = 4 ∧ ∀ j, j < 4 → (([some none, none, none, none] : List (Option (Option Nat)))[j]? = some none ∧ defaultValue (tyJ4 j) = .int 0) ∨ (([some none, none, none, none] : List (Option (Option Nat)))[j]? = some (some none) ∧ defaultValue (tyJ4 j) = .null)) :=
  ⟨rfl, fun j hj => by match j, hj with | 0, _ => exact Or.inr ⟨rfl, rfl⟩ | 1, _ => exact Or.inl ⟨rfl, rfl⟩ | 2, _ => exact Or.inl ⟨rfl, rfl⟩ | 3, _ => exact Or.inl ⟨rfl, rfl⟩⟩
theorem z_flJ0 : (([some none, none, none, none] : List (Option (Option Nat))).length = 4 ∧ ∀ j, j < 4 → (([some none, none, none, none] : List (Option (Option Nat)))[j]? = some none ∧ defaultValue (tyJ0 j) = .int 0) ∨ (([some none, none, none, none] : List (Option (Option Nat)))[j]? = some (some none) ∧ defaultValue (tyJ0 j) = .null)) :=
  ⟨rfl, fun j hj => by match j, hj with | 0, _ => exact Or.inr ⟨rfl, rfl⟩ | 1, _ => exact Or.inl ⟨rfl, rfl⟩ | 2, _ => exact Or.inl ⟨rfl, rfl⟩ | 3, _ => exact Or.inl ⟨rfl, rfl⟩⟩
theorem z_vc_row {n kd m : Nat} : z_vc n (.inr (.inl (kd, m))) := True.intro
theorem z_vc_le {n n' : Nat} {c : z_C} (h : z_vc n c) (hn : n ≤ n') : z_vc n' c := by
  rcases c with ⟨ci, fl⟩ | q | rs
  · intro o ho a ha; have := h o ho a ha; omega
  · exact True.intro
  · intro o ho a ha; have := h o ho a ha; omega
theorem z_cl1_app {n : Nat} {sh : List z_C} {l : List z_C} (h : z_cl1 n sh) (hl : ∀ c ∈ l, z_vc (n + l.length) c) : z_cl1 (n + l.length) (sh ++ l) := by
  intro c hc
  rcases List.mem_append.mp hc with h1 | h1
  · exact z_vc_le (h c h1) (by omega)
  · exact hl c h1
theorem z_cls0_row {sh : List z_C} (h : z_cls0 sh) {kd m : Nat} : z_cls0 (sh ++ [.inr (.inl (kd, m))]) := by
  unfold z_cls0
  rw [List.length_append]
  exact z_cl1_app h (fun c hc => by rw [List.mem_singleton.mp hc]; exact z_vc_row)
theorem z_cls0_set {sh : List z_C} (h : z_cls0 sh) {a v m : Nat} {ci : Nat} (hv : v < sh.length + 1) : z_cls0 (sh.set a (.inl (ci, [some (some v), none, none, none])) ++ [.inr (.inl (2, m))]) := by
  unfold z_cls0
  rw [List.length_append, List.length_set]
  intro c hc
  rcases List.mem_append.mp hc with h1 | h1
  · rcases List.mem_or_eq_of_mem_set h1 with h2 | h2
    · exact z_vc_le (h c h2) (by show sh.length ≤ sh.length + 1; omega)
    · rw [h2]
      intro o ho b hb
      simp only [List.mem_cons, List.not_mem_nil, or_false] at ho
      rcases ho with rfl | rfl | rfl | rfl
      · have : v = b := by injection hb with h3; injection h3
        subst this
        exact Or.inl hv
      · cases hb
      · cases hb
      · cases hb
  · rw [List.mem_singleton.mp h1]; exact z_vc_row
section ZJDK4
variable {sh : List z_C} {w : z_Mm} {Q : Option z_V → z_S → Prop}
theorem z_lv1 {n a i : Nat} (h : a < n) : z_lv n [(i, z_r a)] := by
  intro q hq
  rw [List.mem_singleton.mp hq]
  exact Or.inl h
theorem t_J5_init16 {a k : Nat} (ha : sh[a]? = some z_sb0) (hk : 16 ≤ k) (hsl : sh.length < 1000) (hlo : z_cls0 sh)
    (h : ∀ w' : z_Mm, (∀ j, w' sh.length j = 0) → w' a 1 = 0 → (∀ j : Int, j ≠ 1 → w' a j = w a j) → (∀ b, b ≠ sh.length → b ≠ a → w' b = w b) → Q none (sh.set a (z_sbc sh.length) ++ [.inr (.inl (2, 16))], w')) : z_Sem (mJ5_init_d00df k) (sh.length, 0) 0 [(0, z_r a), (1, z_i 16)] [] (sh, w) Q := by
  have hal := z_ltat ha
  refine z_aload_n 0 dJ5_init_d00df_0 rfl rfl ?_
  refine z_objInit zORJ5_3 z_oin z_oco ⟨z_lek rfl, z_lek rfl⟩ dJ5_init_d00df_1 ?_
  refine z_getCS zgRJ5_18 dJ5_init_d00df_4 ?_
  refine z_if_eq (tgt := 25) dJ5_init_d00df_7 (by decide) (fun c => absurd c (by decide)) (fun _ => ?_)
  refine z_aload_n 0 dJ5_init_d00df_10 rfl rfl ?_
  refine z_iload_n 1 dJ5_init_d00df_11 rfl rfl ?_
  refine z_newa (N := 16) (kd := 2) (Or.inr (Or.inr ⟨rfl, rfl⟩)) z_awb (by decide) hsl hlo (z_lv2 hal) (fun q hq => by rw [List.mem_singleton.mp hq]; exact Or.inl hal) (by decide) ⟨by show 0 + 16 ≤ k; omega, by show 0 + 16 ≤ k; omega⟩ dJ5_init_d00df_12 ?_
  refine z_gennw (fun w1 hw1 hw2 => ?_)
  refine z_putR zoRJ5_15 (fun c => by cases c) (fun b => ⟨rfl, rfl⟩) dJ5_init_d00df_14 (z_leftat ha) (z_ltk rfl) ?_
  show z_Sem _ _ _ _ _ (z_u (sh ++ [.inr (.inl (2, 16))], w1) a (z_sbc sh.length) (w1 a)) Q
  rw [z_u_sh, List.set_append_left _ _ hal]
  have hat : (sh.set a (z_sbc sh.length) ++ [(.inr (.inl (2, 16)) : z_C)])[a]? = some (z_sbc sh.length) := by
    rw [List.getElem?_append_left (by rw [List.length_set]; exact hal), List.getElem?_set_self hal]
  refine z_aload_n 0 dJ5_init_d00df_17 rfl rfl ?_
  refine z_iconst dJ5_init_d00df_18 (by decide) ?_
  refine z_putV (k := 1) zfRJ5_22 (by decide) (by decide) dJ5_init_d00df_19 hat rfl ?_
  refine z_goto (tgt := 38) dJ5_init_d00df_22 (by decide) ?_
  refine z_ret (v := none) dJ5_init_d00df_38 ⟨rfl, rfl⟩ rfl (h _ (fun j => ?_) ?_ (fun j hj => ?_) (fun b hb hba => ?_))
  · show (if sh.length = a ∧ j = ((1 : Nat) : Int) then (0 : Int) else w1 sh.length j) = 0
    rw [if_neg (by omega)]; exact hw1 j
  · show (if a = a ∧ (1 : Int) = ((1 : Nat) : Int) then (0 : Int) else w1 a 1) = 0
    rw [if_pos ⟨rfl, rfl⟩]
  · show (if a = a ∧ j = ((1 : Nat) : Int) then (0 : Int) else w1 a j) = w a j
    rw [if_neg (fun q => hj q.2), hw2 a (by omega)]
  · funext j
    show (if b = a ∧ j = ((1 : Nat) : Int) then (0 : Int) else w1 b j) = w b j
    rw [if_neg (fun q => hba q.1), hw2 b hb]
theorem t_J4_init16 {a k : Nat} (ha : sh[a]? = some z_sb0) (hk : 16 ≤ k) (hsl : sh.length < 1000) (hlo : z_cls0 sh)
    (h : ∀ w' : z_Mm, (∀ j, w' sh.length j = 0) → w' a 1 = 0 → (∀ j : Int, j ≠ 1 → w' a j = w a j) → (∀ b, b ≠ sh.length → b ≠ a → w' b = w b) → Q none (sh.set a (z_sbc sh.length) ++ [.inr (.inl (2, 16))], w')) : z_Sem (mJ4_init_da8c8 k) (sh.length, 0) 0 [(0, z_r a)] [] (sh, w) Q := by
  have hal := z_ltat ha
  refine z_aload_n 0 dJ4_init_da8c8_0 rfl rfl ?_
  refine z_bipush dJ4_init_da8c8_1 (by decide) (by decide) ?_
  refine z_callA (M' := mJ5_init_d00df k) (vs := [z_r a, z_i 16]) (rest := []) (z_invI (As := [z_i 16]) zmJ5_init_d00df znJ5_init_d00df rfl rfl zlRJ4_1 ⟨z_lek rfl, z_lek rfl⟩ dJ4_init_da8c8_3 rfl) zwJ5_init_d00df.2.2.2.2 (fun _ _ _ _ _ _ _ _ _ _ _ => True.intro) rfl (z_ar (z_ai z_a0)) (z_lek rfl) (z_lek rfl) (z_lv1 hal) (fun q hq => by cases hq) (Nat.le_refl _) (by show k ≠ 0; omega) (by show 0 + k ≤ k ∧ 0 + k ≤ k; omega) ?_
  refine t_J5_init16 ha hk hsl hlo (fun w' g1 g2 g3 g4 => ?_)
  exact z_ret (v := none) dJ4_init_da8c8_6 ⟨rfl, rfl⟩ rfl (h w' g1 g2 g3 g4)
/-- the bridge -/
theorem t_J4_appendB {a v m k x : Nat} {n : Int} {t : List Int} (hs : z_isSb sh a v m) (h1 : w a 1 = 0) (h3 : w a 3 = n) (hn : 0 ≤ n ∧ n ≤ m) (hx : z_isx sh w x t) (ht : t.length ≤ 1000) (hm : m ≤ 20000) (hk1 : 1 ≤ k) (hk : (m : Int) < n + t.length → (m : Int) + max (n + t.length - m) (m + 2) ≤ k) (hsl : sh.length < 1000) (hlo : z_cls0 sh) (hb : ∀ j : Int, 0 ≤ j → j < m → 0 ≤ w v j ∧ w v j < 128)
    (h : ∀ (sh' : List z_C) (w' : z_Mm) (v' m' : Nat), z_gr sh w a v m (n + t.length) sh' w' v' m' → Q (some (z_r a)) (sh', z_W (z_put w' v' n t) a 3 (n + t.length))) : z_Sem (mJ4_append_cf1ce k) (sh.length, 0) 0 [(0, z_r a), (1, z_r x)] [] (sh, w) Q := by
  have hal := z_ltat hs.1
  refine z_aload_n 0 dJ4_append_cf1ce_0 rfl rfl ?_
  refine z_aload_n 1 dJ4_append_cf1ce_1 rfl rfl ?_
  refine z_callA (M' := mJ4_append_15ec4 k) (vs := [z_r a, z_r x]) (rest := []) (z_invV (C := RJ4) (As := [z_r x]) zmJ4_append_15ec4 znJ4_append_15ec4 zsJ4_append_15ec4 zlRJ4_23 ⟨z_lek rfl, z_lek rfl⟩ dJ4_append_cf1ce_2 rfl) zwJ4_append_15ec4.2.2.2.2 (fun G p s m args meth c H locs hX hP => z_recC (σ := (sh, w)) z_cl10 hs.1 hX hP) rfl (z_ar (z_ar z_a0)) (z_lek rfl) (z_lek rfl) (z_lvrr hal hx.vv) (fun q hq => by cases hq) (Nat.le_refl _) (by show k ≠ 0; omega) (by show 0 + k ≤ k ∧ 0 + k ≤ k; omega) ?_
  refine t_J4_appendS hs h1 h3 hn hx ht hm hk1 hk hsl hlo hb (fun sh' w' v' m' hg => ?_)
  exact z_ret (v := some (z_r a)) dJ4_append_cf1ce_5 ⟨rfl, _, rfl, Or.inl ⟨_, rfl⟩⟩ rfl (h sh' w' v' m' hg)
end ZJDK4
