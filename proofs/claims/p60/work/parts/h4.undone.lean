section ZUNDONE4
variable {sh tgs : List z_C} {w w0 : z_Mm} {Q : Option z_V → z_S → Prop} {A B : z_A} {H : List z_A} {T : z_T} {er : Int} {s : Nat → Option z_A} {n : Nat}
theorem z_tA_at : ∀ (n k : Nat), k < n → (z_tA A n)[k]? = some (z_qv A [] (k : Int))
  | 0, k, h => absurd h (Nat.not_lt_zero k)
  | n + 1, k, h => by
    rw [z_tA]
    rcases Nat.lt_or_ge k n with h1 | h1
    · rw [List.getElem?_append_left (by rw [z_tA_len]; exact h1)]
      exact z_tA_at n k h1
    · have : k = n := by omega
      subst this
      rw [List.getElem?_append_right (by rw [z_tA_len]; exact Nat.le_refl _), z_tA_len, Nat.sub_self]
      rfl
theorem z_tB_at {k : Nat} {b : Int} : ∀ n : Nat, (z_tA A 12)[k]? = some b → (z_tB A n)[k]? = some b
  | 0, h => h
  | n + 1, h => by
    have ih := z_tB_at n h
    have hl := (List.getElem?_eq_some_iff.mp ih).1
    simp only [z_tB]
    rw [List.getElem?_append_left (by simp only [List.length_append]; omega), List.getElem?_append_left (by simp only [List.length_append]; omega), List.getElem?_append_left (by simp only [List.length_append]; omega), List.getElem?_append_left (by simp only [List.length_append]; omega), List.getElem?_append_left hl]
    exact ih
theorem z_tC_at {k : Nat} {b : Int} {L : List Int} {g : Int} : ∀ n : Nat, L[k]? = some b → (z_tC A L g n)[k]? = some b
  | 0, h => h
  | n + 1, h => by
    have ih := z_tC_at (g := g) n h
    rw [z_tC, List.getElem?_append_left (List.getElem?_eq_some_iff.mp ih).1]
    exact ih
theorem z_tD_at {k : Nat} {b : Int} : ∀ n : Nat, (z_tA A 12)[k]? = some b → (z_tD A n)[k]? = some b
  | 0, h => z_tB_at _ h
  | n + 1, h => z_tC_at 5 (z_tD_at n h)
theorem z_tE_at {k : Nat} {b : Int} : ∀ n : Nat, (z_tA A 12)[k]? = some b → (z_tE A n)[k]? = some b
  | 0, h => z_tD_at _ h
  | n + 1, h => by
    have ih := z_tE_at n h
    have hl := (List.getElem?_eq_some_iff.mp ih).1
    simp only [z_tE]
    rw [List.getElem?_append_left (by simp only [List.length_append]; omega), List.getElem?_append_left (by simp only [List.length_append]; omega), List.getElem?_append_left hl]
    exact ih
theorem z_tl_2 : (z_tl A)[2]? = some (A 2 0) := z_tE_at _ (z_tA_at 12 2 (by decide))
/-- undone -/
theorem L_undone (hpar : z_parses) (hctor : z_ctorTG tgs) (hlen : sh.length = 164) (hlo : z_cls0 sh) (hT : z_isTG sh 0) (h1 : sh[161]? = some (.inr (.inl (0, 8)))) (h2 : sh[162]? = some (.inr (.inl (0, 400)))) (h3 : sh[163]? = some (.inr (.inl (0, 400)))) (hs1 : s 1 = none) (h : z_JC w A H T er s) (hT0 : T.1 = 0) (hn : z_nmi A)
    (hQ : ∀ w', Q (some (z_i 1)) (sh, w')) : z_Sem mLu (164, 0) 0 [(0, z_r 0), (1, z_r 161), (2, z_r 162), (3, z_r 163)] [] (sh, w) Q := by
  obtain ⟨c1, c2, c3, c4⟩ := hctor
  refine z_aload_n 0 dL_undone_0 rfl rfl ?_
  refine z_aload_n 2 dL_undone_1 rfl rfl ?_
  refine z_callS (As := [z_r 0, z_r 162]) (rest := []) zmL_tells ztL_tells zlRL_160 ⟨z_lek rfl, z_lek rfl⟩ dL_undone_2 rfl rfl (z_ar (z_ar z_a0)) (z_lek rfl) (z_lek rfl) ⟨rfl, rfl⟩ (z_CIm (K := fun x w' => x = ((z_tl A).length : Int) ∧ z_LX 162 (z_tl A) w' A H T er s) (z_LX.tells h hT h2 (by decide) (fun w' hl => ⟨rfl, hl⟩)) ?_)
  rintro _ w1 ⟨rfl, hl⟩
  show z_Sem mLu (164, 0) 5 [(0, z_r 0), (1, z_r 161), (2, z_r 162), (3, z_r 163)] [z_i ((z_tl A).length : Int)] (sh, w1) Q
  refine z_istore (L' := [(4, z_i ((z_tl A).length : Int)), (0, z_r 0), (1, z_r 161), (2, z_r 162), (3, z_r 163)]) dL_undone_5 (z_ltk rfl) rfl ?_
  refine z_aload_n 1 dL_undone_7 rfl rfl ?_
  refine z_iconst dL_undone_8 (by decide) ?_
  have hkp : z_uc mX8_keep [z_r 0, z_i 0] A H T er s (A 2 0) A H T er (z_sput s 0 A) := by
    have := uc_keep (A := A) (H := H) (T := T) (er := er) (s := s) (i := 0)
    rw [if_pos (by decide), if_pos (by decide)] at this
    exact this
  refine z_goL (As := [z_i 0]) (rest := []) zmX8_keep znX8_keep zsX8_keep zlRL_259 ⟨z_lek rfl, z_lek rfl⟩ dL_undone_9 hT rfl rfl (z_ai z_a0) (z_lek rfl) (z_lek rfl) ⟨rfl, rfl⟩ hkp hl (by decide) (fun w2 hl => ?_)
  refine z_istore (L' := [(5, z_i (A 2 0)), (4, z_i ((z_tl A).length : Int)), (0, z_r 0), (1, z_r 161), (2, z_r 162), (3, z_r 163)]) dL_undone_12 (z_ltk rfl) rfl ?_
  refine z_iconst dL_undone_14 (by decide) ?_
  refine z_istore (L' := [(6, z_i 0), (5, z_i (A 2 0)), (4, z_i ((z_tl A).length : Int)), (0, z_r 0), (1, z_r 161), (2, z_r 162), (3, z_r 163)]) dL_undone_15 (z_ltk rfl) rfl ?_
  have hs0' : z_sput s 0 A 0 = some A := if_pos rfl
  have hs1' : z_sput s 0 A 1 = none := by show (if 1 = 0 then some A else s 1) = none; rw [if_neg (by decide)]; exact hs1
  refine L_undone_17 (z := 0) (n0' := 0) (k7 := 0) hT h1 (by omega) (by omega) (by omega) hlo (fun w3 A3 H3 T3 _ hl3 hT3 hn3 => ?_) (by decide) 7 0 rfl 0 w2 A H T hl hT0 hn
  refine z_iload 1 dL_undone_37 rfl ?_
  refine z_aload_n 5 dL_undone_39 rfl rfl ?_
  refine z_iconst dL_undone_40 (by decide) ?_
  refine z_iald dL_undone_41 h2 (by decide) ?_
  show z_Sem mLu (164, 0 + 1024 * 7) 42 _ [z_i (w3 162 2), z_i (A 2 0)] (sh, w3) Q
  have e2 : w3 162 2 = A 2 0 := hl3.2 2 _ z_tl_2
  rw [e2]
  refine z_icmp_ne (tgt := 279) dL_undone_42 (by decide) (fun c => absurd rfl c) (fun _ => ?_)
  refine z_aload_n 3 dL_undone_45 rfl rfl ?_
  refine z_iconst dL_undone_46 (by decide) ?_
  refine z_goL (As := [z_i 0]) (rest := []) zmX8_restore znX8_restore zsX8_restore zlRL_265 ⟨z_lek rfl, z_lek rfl⟩ dL_undone_47 hT rfl rfl (z_ai z_a0) (z_lek rfl) (z_lek rfl) ⟨rfl, rfl⟩ (F_rest0 hs0') hl3 (by decide) (fun w4 hl4 => ?_)
  have hH : 1 ≤ (z_push H3 A3).length ∧ (z_push H3 A3).length ≤ 8 := by
    refine ⟨by unfold z_push; rw [List.length_append]; show 1 ≤ _ + 1; omega, ?_⟩
    exact hl4.1.1.2.2.2.2.1
  refine z_iload 1 dL_undone_50 rfl ?_
  refine z_icmp_ne (tgt := 279) dL_undone_52 (by decide) (fun c => absurd rfl c) (fun _ => ?_)
  refine z_aload_n 3 dL_undone_55 rfl rfl ?_
  refine z_aload_n 5 dL_undone_56 rfl rfl ?_
  refine z_iload 2 dL_undone_57 rfl ?_
  refine z_aload_n 6 dL_undone_59 rfl rfl ?_
  refine z_callS (As := [z_r 0, z_r 162, z_i ((z_tl A).length : Int), z_r 163]) (rest := []) zmL_isAs ztL_isAs zlRL_218 ⟨z_lek rfl, z_lek rfl⟩ dL_undone_60 rfl rfl (z_ar (z_ar (z_ai (z_ar z_a0)))) (z_lek rfl) (z_lek rfl) ⟨rfl, rfl⟩ (z_CIm (K := fun x w' => x = 1 ∧ z_LX 162 (z_tl A) w' A (z_push H3 A3) T3 er (z_sput s 0 A)) (z_LX.isAs hl4 hT h2 h3 (by decide) (by decide) (by decide) (fun w' h1 => ⟨rfl, h1⟩)) ?_)
  rintro _ w5 ⟨rfl, hl5⟩
  refine z_if_eq (tgt := 279) dL_undone_63 (by decide) (fun c => absurd c (by decide)) (fun _ => ?_)
  refine L_undone_66 (k7 := 0) hT (by decide) hs1' hl5 (fun w6 hl6 => ?_)
  refine L_undone_282 (k7 := 0) hT (by decide) hH hs0' hl6 (fun w7 H7 hl7 => ?_)
  -- another object
  have hc0 : z_vc 0 z_tg0 := fun o ho a ha => by
    simp only [List.mem_cons, List.not_mem_nil, or_false] at ho
    rcases ho with rfl | rfl | rfl | rfl | rfl | rfl | rfl | rfl | rfl <;> cases ha
  have hLv : z_lv sh.length [(8, z_i (A 2 0)), (6, z_i 1), (7, z_i 1), (5, z_i (A 2 0)), (4, z_i ((z_tl A).length : Int)), (0, z_r 0), (1, z_r 161), (2, z_r 162), (3, z_r 163)] := by
    intro q hq
    simp only [List.mem_cons, List.not_mem_nil, or_false] at hq
    rcases hq with rfl | rfl | rfl | rfl | rfl | rfl | rfl | rfl | rfl <;> first | exact True.intro | exact Or.inl (by omega)
  refine z_new (fl := [some none, some none, some none, some none, some none, some none, some none, some none, none]) z_k8 zcRL_9 ziRX8 zIRX8 ⟨rfl, fun j hj => by
    match j, hj with
    | 0, _ => exact Or.inr ⟨rfl, rfl⟩
    | 1, _ => exact Or.inr ⟨rfl, rfl⟩
    | 2, _ => exact Or.inr ⟨rfl, rfl⟩
    | 3, _ => exact Or.inr ⟨rfl, rfl⟩
    | 4, _ => exact Or.inr ⟨rfl, rfl⟩
    | 5, _ => exact Or.inr ⟨rfl, rfl⟩
    | 6, _ => exact Or.inr ⟨rfl, rfl⟩
    | 7, _ => exact Or.inr ⟨rfl, rfl⟩
    | 8, _ => exact Or.inl ⟨rfl, rfl⟩⟩ (show sh.length < 1000 by omega) hlo hLv (fun q hq => by cases hq) (by decide) ⟨by decide, by decide⟩ dL_undone_380 ?_
  refine z_gennw (fun w8 hw8 hw9 => ?_)
  refine z_dup dL_undone_383 rfl ?_
  refine z_callL (M' := mX8_init) (pre := sh) (c0 := z_tg0) (n := sh.length) (rest := [z_r sh.length]) (z_invI (As := []) zmX8_init znX8_init rfl rfl zlRL_275 ⟨z_lek rfl, z_lek rfl⟩ dL_undone_384 rfl) zmX8_init.2.2.2.2 (fun _ _ _ _ _ _ _ _ _ _ _ => True.intro) rfl (z_lek rfl) (z_lek rfl) rfl (by show 164 ≤ sh.length; omega) hc0 hlo (z_lv_le hLv (by omega)) (fun q hq => by rw [List.mem_singleton.mp hq]; exact Or.inl (by omega)) (Nat.le_refl _) (by decide) ⟨by decide, by decide⟩ ?_
  refine c4 _ _ (fun w9 er9 hj9 => ⟨rfl, c3, by rw [hlen]; show 164 + tgs.length ≤ 1000; omega, ?_⟩)
  rw [hlen]
  have hl9 : z_JC (z_mL 164 w8 w9) A H7 T3 er (z_sput s 0 A) := hl7.1.fr (fun a ha _ => by
    show (if 164 ≤ a ∧ a < 1000 then _ else w8 a) = w7 a
    rw [if_neg (by omega)]
    exact hw9 a (show a ≠ sh.length by omega))
  have hx9 : z_JC (z_pw (fun a => 164 + a) (z_mL 164 w8 w9)) (z_ini 100) [] (0, fun _ => 0) er9 (fun _ => none) := hj9.fr (fun a ha _ => by
    rw [z_pw_at (by omega)]
    show (if 164 ≤ 164 + a ∧ 164 + a < 1000 then w9 (164 + a - 164) else w8 (164 + a)) = w9 a
    rw [if_pos (by omega), show 164 + a - 164 = a by omega])
  have ht9 : z_tx (z_mL 164 w8 w9) 162 (z_tl A) := hl7.2.cg (by
    show (if 164 ≤ 162 ∧ 162 < 1000 then _ else w8 162) = w7 162
    rw [if_neg (by decide)]
    exact hw9 162 (show 162 ≠ sh.length by omega))
  have hlen2 : (sh ++ tgs.map (z_rc (fun a => 164 + a))).length = 325 := by rw [List.length_append, List.length_map]; omega
  have hlo2 : z_cls0 (sh ++ tgs.map (z_rc (fun a => 164 + a))) := by
    unfold z_cls0
    rw [List.length_append]
    refine z_cl1_app hlo (fun c hc => ?_)
    obtain ⟨d, hd, rfl⟩ := List.mem_map.mp hc
    have hvd := c3 d hd
    rw [List.length_map]
    rcases d with ⟨ci, fl⟩ | q | rs
    · intro o ho a ha
      obtain ⟨o1, ho1, rfl⟩ := List.mem_map.mp ho
      rcases o1 with _ | _ | b
      · cases ha
      · cases ha
      · have := hvd _ ho1 b rfl
        have e : z_rnm (fun a => 164 + a) b = a := by injection ha with ha; injection ha
        rcases this with q | q
        · rw [z_rnm_lt (by omega)] at e
          have e' : 164 + b = a := e
          left; omega
        · rw [z_rnm_ge q] at e
          right; omega
    · exact True.intro
    · intro o ho a ha
      obtain ⟨o1, ho1, rfl⟩ := List.mem_map.mp ho
      rcases o1 with _ | b
      · cases ha
      · have := hvd _ ho1 b rfl
        have e : z_rnm (fun a => 164 + a) b = a := by injection ha with ha; injection ha
        rcases this with q | q
        · rw [z_rnm_lt (by omega)] at e
          have e' : 164 + b = a := e
          left; omega
        · rw [z_rnm_ge q] at e
          right; omega
  have hp : z_pull (fun a => 164 + a) (sh ++ tgs.map (z_rc (fun a => 164 + a))) tgs := z_pull_n c1 (fun a ha => by rw [List.getElem?_append_right (by omega), hlen, show 164 + a - 164 = a by omega])
  refine z_astore (L' := [(9, z_r 164), (8, z_i (A 2 0)), (6, z_i 1), (7, z_i 1), (5, z_i (A 2 0)), (4, z_i ((z_tl A).length : Int)), (0, z_r 0), (1, z_r 161), (2, z_r 162), (3, z_r 163)]) dL_undone_387 (z_ltk rfl) rfl ?_
  refine L_undone_389 (z := 0 + 1024 * 7 + 9 + 6892) hpar c1 c2 c3 hlen2 hlo2 (z_TGapp hT) (by rw [List.getElem?_append_left (z_ltat h2)]; exact h2) (by rw [List.getElem?_append_left (z_ltat h3)]; exact h3) hp hn (by decide) ⟨hl9, ht9⟩ hx9 (fun w' => ?_)
  rw [show (sh ++ tgs.map (z_rc (fun a => 164 + a))).take 164 = sh by rw [← hlen]; exact List.take_left]
  exact hQ w'
end ZUNDONE4
