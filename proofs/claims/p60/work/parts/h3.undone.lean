section ZUNDONE3
variable {sh tgs : List z_C} {w w0 : z_Mm} {Q : Option z_V → z_S → Prop} {A B : z_A} {H : List z_A} {T : z_T} {er : Int} {s : Nat → Option z_A} {n : Nat}
theorem z_rnm_0 {r : Nat → Nat} : z_rnm r 0 = r 0 := if_pos (by decide)
/-- names of another object's cells, and of a String -/
def z_r2 (n x v : Nat) (a : Nat) : Nat := if a < 161 then n + a else if a = 161 then x else v
theorem z_rc_cg {k : Nat} {r r' : Nat → Nat} {c : z_C} (hc : z_vc k c) (hk : k ≤ 1000) (h : ∀ a : Nat, a < k → r a = r' a) : z_rc r c = z_rc r' c := by
  have hr : ∀ o : Option (Option Nat), z_vo k o → z_rof r o = z_rof r' o := fun o ho => by
    rcases o with _ | _ | a
    · rfl
    · rfl
    · show some (some (z_rnm r a)) = some (some (z_rnm r' a))
      rcases ho a rfl with h1 | h1
      · rw [z_rnm_lt (by omega), z_rnm_lt (by omega), h a h1]
      · rw [z_rnm_ge h1, z_rnm_ge h1]
  rcases c with ⟨ci, fl⟩ | q | rs
  · show Sum.inl (ci, fl.map (z_rof r)) = Sum.inl (ci, fl.map (z_rof r'))
    rw [List.map_congr_left (fun o ho => hr o (hc o ho))]
  · rfl
  · show Sum.inr (Sum.inr (rs.map (Option.map (z_rnm r)))) = Sum.inr (Sum.inr (rs.map (Option.map (z_rnm r'))))
    rw [List.map_congr_left (fun o ho => by
      have := hr (some o) (hc o ho)
      injection this)]
theorem z_pull_n (htg : tgs.length = 161) (h : ∀ a : Nat, a < 161 → sh[n + a]? = (tgs.map (z_rc (fun a => n + a)))[a]?) : z_pull (fun a => n + a) sh tgs := by
  refine ⟨fun a c hac => ?_, fun a b _ _ q => (by have q' : n + a = n + b := q; omega)⟩
  have hal := z_ltat hac
  rw [h a (by omega), List.getElem?_map, hac]
  rfl
theorem z_pull_2 {x v : Nat} {t : List Int} (htg : tgs.length = 161) (hc : z_cls0 tgs) (hp : z_pull (fun a => n + a) sh tgs) (hst : z_isSt sh x v t.length) (hx : n + 161 ≤ x) (hv : n + 161 ≤ v) (hxv : x ≠ v) : z_pull (z_r2 n x v) sh (tgs ++ [z_stc 162, .inr (.inl (2, t.length))]) := by
  have hr : ∀ a : Nat, a < 161 → z_r2 n x v a = n + a := fun a ha => if_pos ha
  refine ⟨fun a c hac => ?_, fun a b ha hb q => ?_⟩
  · rcases Nat.lt_or_ge a 161 with ha | ha
    · rw [List.getElem?_append_left (by omega)] at hac
      have hvc := hc c (List.mem_of_getElem? hac)
      rw [htg] at hvc
      rw [hr a ha, z_rc_cg (r' := fun a => n + a) hvc (by decide) hr]
      exact hp.1 a c hac
    · rw [List.getElem?_append_right (by omega), htg] at hac
      rcases (by have := (List.getElem?_eq_some_iff.mp hac).1; simp at this; omega : a = 161 ∨ a = 162) with rfl | rfl
      · have : c = z_stc 162 := by simpa using hac.symm
        subst this
        have e1 : z_r2 n x v 161 = x := by unfold z_r2; rw [if_neg (by decide), if_pos rfl]
        have e2 : z_rc (z_r2 n x v) (z_stc 162) = z_stc v := by
          show Sum.inl (9, [some (some (z_rnm (z_r2 n x v) 162)), none, none, none]) = _
          rw [z_rnm_lt (by decide)]
          have : z_r2 n x v 162 = v := by unfold z_r2; rw [if_neg (by decide), if_neg (by decide)]
          rw [this]
        rw [e1, e2]
        exact hst.1
      · have : c = .inr (.inl (2, t.length)) := by simpa using hac.symm
        subst this
        have e1 : z_r2 n x v 162 = v := by unfold z_r2; rw [if_neg (by decide), if_neg (by decide)]
        rw [e1]
        exact hst.2
  · rw [List.length_append, htg] at ha hb
    have ha' : a < 163 := ha
    have hb' : b < 163 := hb
    unfold z_r2 at q
    split at q <;> split at q <;> (try split at q) <;> (try split at q) <;> omega
theorem L_undone_389 {k7 : Int} {er2 : Int} {z : Nat} (hpar : z_parses) (htg : tgs.length = 161) (hTt : z_isTG tgs 0) (hct : z_cls0 tgs) (hlen : sh.length = 325) (hlo : z_cls0 sh) (hT : z_isTG sh 0) (h2 : sh[162]? = some (.inr (.inl (0, 400)))) (h3 : sh[163]? = some (.inr (.inl (0, 400)))) (hp : z_pull (fun a => 164 + a) sh tgs)
    (hn : z_nmi A) (hz : z + 8448 ≤ 40000) (hl : z_LX 162 (z_tl A) w A H T er s) (hx : z_JC (z_pw (fun a => 164 + a) w) (z_ini 100) [] (0, fun _ => 0) er2 (fun _ => none))
    (hQ : ∀ w' : z_Mm, Q (some (z_i 1)) (sh.take 164, w')) :
    z_Sem mLu (164, z) 389 [(9, z_r 164), (8, z_i (A 2 0)), (6, z_i 1), (7, z_i k7), (5, z_i (A 2 0)), (4, z_i ((z_tl A).length : Int)), (0, z_r 0), (1, z_r 161), (2, z_r 162), (3, z_r 163)] [] (sh, w) Q := by
  have hok := hl.1.1.1
  have hXle := z_stx_le hok.1 hn
  have hXge := z_x3_ge (A := A) (A 1 0 - 1).toNat
  have hLv : z_lv sh.length [(9, z_r 164), (8, z_i (A 2 0)), (6, z_i 1), (7, z_i k7), (5, z_i (A 2 0)), (4, z_i ((z_tl A).length : Int)), (0, z_r 0), (1, z_r 161), (2, z_r 162), (3, z_r 163)] := by
    intro q hq
    simp only [List.mem_cons, List.not_mem_nil, or_false] at hq
    rcases hq with rfl | rfl | rfl | rfl | rfl | rfl | rfl | rfl | rfl | rfl <;> first | exact True.intro | exact Or.inl (by omega)
  refine z_iload 2 dL_undone_389 rfl ?_
  refine z_if_eq (tgt := 483) dL_undone_391 (by decide) (fun c => absurd c (by decide)) (fun _ => ?_)
  refine z_iload 1 dL_undone_394 rfl ?_
  refine z_iload 4 dL_undone_396 rfl ?_
  refine z_icmp_ne (tgt := 483) dL_undone_398 (by decide) (fun c => absurd rfl c) (fun _ => ?_)
  refine z_aload_n 6 dL_undone_401 rfl rfl ?_
  refine z_aload_n 8 dL_undone_402 rfl rfl ?_
  refine z_iload 5 dL_undone_403 rfl ?_
  refine z_aload_n 9 dL_undone_405 rfl rfl ?_
  refine z_callS (As := [z_r 0, z_r 162, z_i ((z_tl A).length : Int), z_r 163]) (rest := []) zmL_isAs ztL_isAs zlRL_218 ⟨z_lek rfl, z_lek rfl⟩ dL_undone_406 rfl rfl (z_ar (z_ar (z_ai (z_ar z_a0)))) (z_lek rfl) (z_lek rfl) ⟨rfl, rfl⟩ (z_CIm (K := fun x w' => x = 1 ∧ z_LX 162 (z_tl A) w' A H T er s ∧ ∀ a : Nat, 164 ≤ a → w' a = w a) (L_isAs hT (by decide) h2 h3 hl.1 (by decide) (by decide) hl.2 (fun w' h1 f => ⟨rfl, ⟨h1, hl.2.cg (f 162 (by decide) (by decide))⟩, fun a ha => f a (by omega) (by omega)⟩)) ?_)
  rintro _ w1 ⟨rfl, hl1, hf1⟩
  have hx1 : z_JC (z_pw (fun a => 164 + a) w1) (z_ini 100) [] (0, fun _ => 0) er2 (fun _ => none) := hx.fr (fun a ha _ => by rw [z_pw_at (by omega), z_pw_at (by omega)]; exact hf1 _ (by omega))
  refine z_if_eq (tgt := 483) dL_undone_409 (by decide) (fun c => absurd c (by decide)) (fun _ => ?_)
  refine z_aload 0 dL_undone_412 rfl ?_
  refine z_aload_n 6 dL_undone_414 rfl rfl ?_
  refine z_iconst dL_undone_415 (by decide) ?_
  refine z_callA (M' := mL_text) (vs := [z_r 0, z_i 0]) (rest := [z_r 164]) (z_invS (As := [z_r 0, z_i 0]) zmL_text ztL_text zlRL_276 ⟨z_lek rfl, z_lek rfl⟩ dL_undone_416 rfl) zmL_text.2.2.2.2 (fun _ _ _ _ _ _ _ _ _ _ _ => True.intro) rfl (z_ar (z_ai z_a0)) (z_lek rfl) (z_lek rfl) hLv (fun q hq => by rw [List.mem_singleton.mp hq]; exact Or.inl (by show 164 < sh.length; omega)) (Nat.le_refl _) (by decide) ⟨by show z + 8192 ≤ 40000; omega, by show z + 8192 ≤ 40000; omega⟩ ?_
  refine L_text (sh := sh) hT (show 161 ≤ sh.length by omega) (show sh.length < 700 by omega) hlo hl1.1 hXle hXge (fun sh2 w2 x v hst hl2 hmo hf2 hlo2 hle1 hle2 hxv0 => ?_)
  show z_Sem mLu (164, z + 8192) 419 _ [z_r x, z_r 164] (sh2, w2) Q
  have hmo' : ∀ b : Nat, b < sh.length → sh2[b]? = sh[b]? := fun b hb => by
    have := List.getElem?_eq_getElem hb
    rw [this]
    exact hmo b _ (by omega) hb this
  have hp2 : z_pull (fun a => 164 + a) sh2 tgs := by
    refine ⟨fun a c hac => ?_, hp.2⟩
    have h5 := hp.1 a c hac
    exact hmo _ _ (by omega) (z_ltat h5) h5
  have hx2 : z_JC (z_pw (fun a => 164 + a) w2) (z_ini 100) [] (0, fun _ => 0) er2 (fun _ => none) := hx1.fr (fun a ha _ => by rw [z_pw_at (by omega), z_pw_at (by omega)]; exact hf2 _ (by omega) (by omega))
  obtain ⟨t1, t2, t3, t4, t5, t6⟩ := hst
  have hxv : x ≠ v := fun e => by subst e; have := t2.1.symm.trans t2.2; cases this
  have hx325 : 164 + 161 ≤ x := by omega
  have hv325 : 164 + 161 ≤ v := by omega
  have hr : ∀ a : Nat, a < 161 → z_r2 164 x v a = 164 + a := fun a ha => if_pos ha
  have hr161 : z_r2 164 x v 161 = x := by unfold z_r2; rw [if_neg (by decide), if_pos rfl]
  have hr162 : z_r2 164 x v 162 = v := by unfold z_r2; rw [if_neg (by decide), if_neg (by decide)]
  have hsclen : (tgs ++ [z_stc 162, (.inr (.inl (2, (z_stx A).length)) : z_C)]).length = 163 := by rw [List.length_append, htg]; rfl
  have hcsc : z_cls0 (tgs ++ [z_stc 162, (.inr (.inl (2, (z_stx A).length)) : z_C)]) := by
    unfold z_cls0
    rw [List.length_append]
    refine z_cl1_app hct (fun c hc => ?_)
    simp only [List.mem_cons, List.not_mem_nil, or_false] at hc
    rcases hc with rfl | rfl
    · intro o ho b hb
      simp only [List.mem_cons, List.not_mem_nil, or_false] at ho
      rcases ho with rfl | rfl | rfl | rfl
      · have : 162 = b := by injection hb with h3; injection h3
        exact Or.inl (by rw [← this, htg]; show 162 < 161 + 2; decide)
      · cases hb
      · cases hb
      · cases hb
    · exact z_vc_row
  have hpull2 := z_pull_2 htg hct hp2 t2 hx325 hv325 hxv
  have hvs : [z_r 0, z_r 161].map (z_rv (z_r2 164 x v)) = [z_r 164, z_r x] := by
    show [z_r (z_rnm (z_r2 164 x v) 0), z_r (z_rnm (z_r2 164 x v) 161)] = _
    rw [z_rnm_lt (by decide), z_rnm_lt (by decide), hr 0 (by decide), hr161]
  refine z_callP (z_r2 164 x v) (sc := tgs ++ [z_stc 162, (.inr (.inl (2, (z_stx A).length)) : z_C)]) (vs := [z_r 0, z_r 161]) (rest := []) (M' := mL_loads) (by rw [hvs]; exact z_invS (As := [z_r 164, z_r x]) zmL_loads ztL_loads zlRL_280 ⟨z_lek rfl, z_lek rfl⟩ dL_undone_419 rfl) zmL_loads.2.2.2.2 (fun _ _ _ _ _ _ _ _ _ _ _ => True.intro) (by rw [hvs]; rfl) (z_ar (z_ar z_a0)) (z_lek rfl) (z_lek rfl) hpull2 (by omega) hcsc (Nat.le_refl _) ⟨by show z + 8192 + 256 ≤ 40000; omega, by show z + 8192 + 256 ≤ 40000; omega⟩ ?_
  have hst' : z_mst (tgs ++ [z_stc 162, (.inr (.inl (2, (z_stx A).length)) : z_C)]) (z_pw (z_r2 164 x v) w2) 161 162 (z_stx A) := by
    refine ⟨t1, ⟨by rw [List.getElem?_append_right (by omega), htg]; rfl, by rw [List.getElem?_append_right (by omega), htg]; rfl⟩, by rw [z_pw_at (by decide), hr161]; exact t3, fun k b hk => ?_, by decide, by decide⟩
    rw [z_pw_at (by decide), hr162]
    exact t4 k b hk
  refine L_loads (z_TGapp hTt) (by omega) (by omega) hcsc hst' hXle (hx2.fr (fun a ha _ => by rw [z_pw_at (by omega), z_pw_at (by omega), hr a (by omega)])) rfl (fun T' ht' => (hpar A hok hn T' ht').1) (fun w' T' ht' hj hf => ⟨rfl, fun y hy => by injection hy with hy; rw [← hy]; exact True.intro, ?_⟩)
  have hsame := (hpar A hok hn T' ht').2
  have hw3o : ∀ a : Nat, a < 164 → z_mw (z_r2 164 x v) (tgs ++ [z_stc 162, (.inr (.inl (2, (z_stx A).length)) : z_C)]).length w2 w' a = w2 a := fun a ha => z_mw_out (fun b hb q => by
    rw [hsclen] at hb
    rcases (by omega : b < 161 ∨ b = 161 ∨ b = 162) with e | e | e
    · rw [hr b e] at q; omega
    · rw [e, hr161] at q; omega
    · rw [e, hr162] at q; omega)
  have hw3x : ∀ a : Nat, a < 161 → z_mw (z_r2 164 x v) (tgs ++ [z_stc 162, (.inr (.inl (2, (z_stx A).length)) : z_C)]).length w2 w' (164 + a) = w' a := fun a ha => by
    have := z_mw_in (w := w2) (w' := w') (r := z_r2 164 x v) (k := (tgs ++ [z_stc 162, (.inr (.inl (2, (z_stx A).length)) : z_C)]).length) hpull2.2 (b := a) (by omega)
    rw [hr a ha] at this
    exact this
  have hO3 : z_JC (z_mw (z_r2 164 x v) (tgs ++ [z_stc 162, (.inr (.inl (2, (z_stx A).length)) : z_C)]).length w2 w') A H T er s := hl2.fr (fun a ha _ => hw3o a (by omega))
  have hX3 : z_JC (z_pw (fun a => 164 + a) (z_mw (z_r2 164 x v) (tgs ++ [z_stc 162, (.inr (.inl (2, (z_stx A).length)) : z_C)]).length w2 w')) (z_ld0 T').2.1 [] (0, T'.2) (-2) (fun _ => none) := hj.fr (fun a ha _ => by rw [z_pw_at (by omega)]; exact hw3x a (by omega))
  generalize z_mw (z_r2 164 x v) (tgs ++ [z_stc 162, (.inr (.inl (2, (z_stx A).length)) : z_C)]).length w2 w' = w3 at hO3 hX3 ⊢
  generalize (z_ld0 T').2.1 = P at hsame hX3
  have hT2 : z_isTG sh2 0 := z_isTG_mo (lo := 0) (hi := 161) (fun b c _ b1 hbc => by rw [hmo' b (by omega)]; exact hbc) (Nat.le_refl _) (by decide) hT
  have keepX : ∀ {w w' : z_Mm}, z_JC (z_pw (fun a => 164 + a) w) P [] (0, T'.2) (-2) (fun _ => none) → (∀ a : Nat, 161 ≤ a → w' a = w a) → z_JC (z_pw (fun a => 164 + a) w') P [] (0, T'.2) (-2) (fun _ => none) := fun h f => h.fr (fun a ha _ => by rw [z_pw_at (by omega), z_pw_at (by omega)]; exact f _ (by omega))
  have keepO : ∀ {w w' : z_Mm}, z_JC w A H T er s → (∀ a : Nat, a < 164 → w' a = w a) → z_JC w' A H T er s := fun h f => h.fr (fun a ha _ => f a (by omega))
  have hz2 : z + 8192 + 256 ≤ mLu.2.2.2.2.cells ∧ z + 8192 + 256 ≤ mLu.2.2.2.2.slots := ⟨by show _ ≤ 40000; omega, by show _ ≤ 40000; omega⟩
  have e1 := hsame.stx hok.1
  have e2 : z_xl P (P 1 0).toNat = z_xl A (A 1 0).toNat := by rw [← hsame.1.2.1]; exact hsame.xl hok.1 _ (by have := hok.1.2.1; omega)
  have e3 : z_ro P (P 1 0).toNat = z_ro A (A 1 0).toNat := by rw [← hsame.1.2.1]; exact hsame.ro hok.1 _
  have e4 : z_Sx A (-1) = z_Sx P (-1) := hsame.1.Sx hok.1 (-1)
  show z_Sem mLu (164, z + 8192 + 256) 422 [(9, z_r 164), (8, z_i (A 2 0)), (6, z_i 1), (7, z_i k7), (5, z_i (A 2 0)), (4, z_i ((z_tl A).length : Int)), (0, z_r 0), (1, z_r 161), (2, z_r 162), (3, z_r 163)] [z_i 1] (sh2, w3) Q
  refine z_if_eq (tgt := 483) dL_undone_422 (by decide) (fun c => absurd c (by decide)) (fun _ => ?_)
  refine z_aload 0 dL_undone_425 rfl ?_
  refine z_goN (As := []) (rest := []) zmX8_setupLength znX8_setupLength zsX8_setupLength zlRL_46 ⟨z_lek rfl, z_lek rfl⟩ dL_undone_427 htg hTt hct hp2 rfl rfl (fun _ h => by cases h) (z_lek rfl) (z_lek rfl) ⟨rfl, rfl⟩ uc_setupLength hX3 hz2 (fun w4 hX4 f4 => ?_)
  have hO4 := keepO hO3 f4
  refine z_aload_n 6 dL_undone_430 rfl rfl ?_
  refine z_goU (As := []) (rest := [z_i ((z_stx P).length : Int)]) zmX8_setupLength znX8_setupLength zsX8_setupLength zlRL_46 ⟨z_lek rfl, z_lek rfl⟩ dL_undone_431 hT2 rfl rfl z_a0 (z_lek rfl) (z_lek rfl) ⟨rfl, rfl⟩ uc_setupLength hO4 (fun w5 hO5 f5 => ?_)
  have hX5 := keepX hX4 f5
  refine z_icmp_ne (tgt := 483) dL_undone_434 (by decide) (fun c => absurd (by show ((z_stx P).length : Int) = ((z_stx A).length : Int); rw [e1]) c) (fun _ => ?_)
  refine z_aload 0 dL_undone_437 rfl ?_
  refine z_goN (As := []) (rest := []) zmX8_listLength znX8_listLength zsX8_listLength zlRL_43 ⟨z_lek rfl, z_lek rfl⟩ dL_undone_439 htg hTt hct hp2 rfl rfl (fun _ h => by cases h) (z_lek rfl) (z_lek rfl) ⟨rfl, rfl⟩ uc_listLength hX5 hz2 (fun w6 hX6 f6 => ?_)
  have hO6 := keepO hO5 f6
  refine z_aload_n 6 dL_undone_442 rfl rfl ?_
  refine z_goU (As := []) (rest := [z_i ((z_xl P (P 1 0).toNat).length : Int)]) zmX8_listLength znX8_listLength zsX8_listLength zlRL_43 ⟨z_lek rfl, z_lek rfl⟩ dL_undone_443 hT2 rfl rfl z_a0 (z_lek rfl) (z_lek rfl) ⟨rfl, rfl⟩ uc_listLength hO6 (fun w7 hO7 f7 => ?_)
  have hX7 := keepX hX6 f7
  refine z_icmp_ne (tgt := 483) dL_undone_446 (by decide) (fun c => absurd (by show ((z_xl P (P 1 0).toNat).length : Int) = ((z_xl A (A 1 0).toNat).length : Int); rw [e2]) c) (fun _ => ?_)
  refine z_aload 0 dL_undone_449 rfl ?_
  refine z_bipush dL_undone_451 (by decide) (by decide) ?_
  refine z_goN (As := [z_i 10]) (rest := []) zmX8_value znX8_value zsX8_value zlRL_103 ⟨z_lek rfl, z_lek rfl⟩ dL_undone_453 htg hTt hct hp2 rfl rfl (fun q h => ⟨10, List.mem_singleton.mp h⟩) (z_lek rfl) (z_lek rfl) ⟨rfl, rfl⟩ (uc_value.as (v' := z_ro P (P 1 0).toNat) rfl) hX7 hz2 (fun w8 hX8 f8 => ?_)
  have hO8 := keepO hO7 f8
  refine z_aload_n 6 dL_undone_456 rfl rfl ?_
  refine z_bipush dL_undone_457 (by decide) (by decide) ?_
  refine z_goU (As := [z_i 10]) (rest := [z_i (z_ro P (P 1 0).toNat)]) zmX8_value znX8_value zsX8_value zlRL_103 ⟨z_lek rfl, z_lek rfl⟩ dL_undone_459 hT2 rfl rfl (z_ai z_a0) (z_lek rfl) (z_lek rfl) ⟨rfl, rfl⟩ (uc_value.as (v' := z_ro A (A 1 0).toNat) rfl) hO8 (fun w9 hO9 f9 => ?_)
  have hX9 := keepX hX8 f9
  refine z_icmp_ne (tgt := 483) dL_undone_462 (by decide) (fun c => absurd e3 c) (fun _ => ?_)
  refine z_aload 0 dL_undone_465 rfl ?_
  refine z_iconst dL_undone_467 (by decide) ?_
  refine z_goN (As := [z_i 5]) (rest := []) zmX8_value znX8_value zsX8_value zlRL_103 ⟨z_lek rfl, z_lek rfl⟩ dL_undone_468 htg hTt hct hp2 rfl rfl (fun q h => ⟨5, List.mem_singleton.mp h⟩) (z_lek rfl) (z_lek rfl) ⟨rfl, rfl⟩ (uc_value.as (v' := ((z_Sx P (-1)).length : Int)) rfl) hX9 hz2 (fun wa hXa fa => ?_)
  have hOa := keepO hO9 fa
  refine z_aload_n 6 dL_undone_471 rfl rfl ?_
  refine z_iconst dL_undone_472 (by decide) ?_
  refine z_goU (As := [z_i 5]) (rest := [z_i ((z_Sx P (-1)).length : Int)]) zmX8_value znX8_value zsX8_value zlRL_103 ⟨z_lek rfl, z_lek rfl⟩ dL_undone_473 hT2 rfl rfl (z_ai z_a0) (z_lek rfl) (z_lek rfl) ⟨rfl, rfl⟩ (uc_value.as (v' := ((z_Sx A (-1)).length : Int)) rfl) hOa (fun wb hOb fb => ?_)
  refine z_icmp_ne (tgt := 483) dL_undone_476 (by decide) (fun c => absurd (by rw [e4]) c) (fun _ => ?_)
  refine z_iconst dL_undone_479 (by decide) ?_
  refine z_goto (tgt := 484) dL_undone_480 (by decide) ?_
  refine z_fgt 164 (Nat.le_refl _) ?_
  have htk : sh2.take 164 = sh.take 164 := by
    apply List.ext_getElem?
    intro i
    rw [List.getElem?_take, List.getElem?_take]
    by_cases c : i < 164
    · rw [if_pos c, if_pos c, hmo' i (by omega)]
    · rw [if_neg c, if_neg c]
  rw [show ((sh2, wb) : z_S).1.take 164 = sh.take 164 from htk]
  exact z_ret (v := some (z_i 1)) dL_undone_484 ⟨rfl, Or.inr (Or.inl ⟨rfl, by decide⟩)⟩ rfl (hQ wb)
end ZUNDONE3
