section ZLAWW
variable {tgs : List z_C} {w : z_Mm} {Q : Option z_V → z_S → Prop} {A : z_A} {H : List z_A} {T : z_T} {er : Int} {z : Nat} {i : Int}
abbrev z_L96 (k i : Int) : List (Nat × z_V) := [(7, z_i k), (4, z_i 1), (6, z_r 3), (5, z_i i), (3, z_r 2), (2, z_r 1), (1, z_r 0), (0, z_r 1000)]
abbrev z_L23 (i : Int) : List (Nat × z_V) := [(5, z_i i), (4, z_i 1), (3, z_r 2), (2, z_r 1), (1, z_r 0), (0, z_r 1000)]
theorem L_law_145 {k : Int} (hpar : z_parses) (hctor : z_ctorTG tgs) (hi : 0 ≤ i ∧ i < 2) (hz : z + 40000 ≤ 600000) (hl : z_ls w) (kk : ∀ w', z_Sem mLaw (0, z + 40000) 23 (z_L23 (i + 1)) [] (z_sh3, w') Q) : z_Sem mLaw (0, z) 145 (z_L96 k i) [] (z_lsh tgs, w) Q := by
  refine z_iload 1 dL_law_145 rfl ?_
  refine z_if_eq (tgt := 184) dL_law_147 (by decide) (fun c => absurd c (by decide)) (fun _ => ?_)
  refine z_aload 2 dL_law_150 rfl ?_
  refine z_goB hctor dL_law_152 (by omega) hl (fun w1 hl => ?_)
  refine z_if_eq (tgt := 184) dL_law_155 (by decide) (fun c => absurd c (by decide)) (fun _ => ?_)
  refine z_aload 2 dL_law_158 rfl ?_
  refine z_aload_n 6 dL_law_160 rfl rfl ?_
  refine z_aload_n 5 dL_law_161 rfl rfl ?_
  refine z_aload_n 4 dL_law_162 rfl rfl ?_
  refine z_goF hctor dL_law_163 (by omega) hl (fun w2 hl => ?_)
  refine z_if_eq (tgt := 184) dL_law_166 (by decide) (fun c => absurd c (by decide)) (fun _ => ?_)
  refine z_aload 2 dL_law_169 rfl ?_
  refine z_aload_n 6 dL_law_171 rfl rfl ?_
  refine z_aload_n 5 dL_law_172 rfl rfl ?_
  refine z_aload_n 4 dL_law_173 rfl rfl ?_
  refine z_goUn hpar hctor dL_law_174 hz hl (fun w3 => ?_)
  refine z_if_eq (tgt := 184) dL_law_177 (by decide) (fun c => absurd c (by decide)) (fun _ => ?_)
  refine z_iconst dL_law_180 (by decide) ?_
  refine z_goto (tgt := 185) dL_law_181 (by decide) ?_
  refine z_istore (L' := [(4, z_i 1), (7, z_i k), (6, z_r 3), (5, z_i i), (3, z_r 2), (2, z_r 1), (1, z_r 0), (0, z_r 1000)]) dL_law_185 (z_ltk rfl) rfl ?_
  refine z_iinc (L' := [(5, z_i (i + 1)), (4, z_i 1), (7, z_i k), (6, z_r 3), (3, z_r 2), (2, z_r 1), (1, z_r 0), (0, z_r 1000)]) 3 dL_law_187 rfl (z_ltk rfl) rfl ⟨by omega, by omega⟩ ?_
  refine z_sub (L' := z_L23 (i + 1)) [0, 1, 4, 5, 6, 7] rfl ?_
  refine z_goto (tgt := 23) dL_law_190 (by decide) ?_
  refine z_fgt 3 (by show 0 ≤ 3; decide) ?_
  rw [show ((z_lsh tgs, w3) : z_S).1.take 3 = z_sh3 from rfl]
  exact kk w3
theorem L_law_96 (hctor : z_ctorTG tgs) (hz : z + 24 * 1024 ≤ 600000) (hQ : ∀ (w : z_Mm) (k : Int), z_ls w → z_Sem mLaw (0, z + 24 * 1024) 145 (z_L96 k i) [] (z_lsh tgs, w) Q) :
    ∀ (n k : Nat), k + n = 24 → ∀ w, z_ls w → z_Sem mLaw (0, z + k * 1024) 96 (z_L96 (k : Int) i) [] (z_lsh tgs, w) Q
  | n, k, hk, w, hl => by
    refine z_iload 0 dL_law_96 rfl ?_
    refine z_bipush dL_law_98 (by decide) (by decide) ?_
    refine z_icmp_ge (tgt := 145) dL_law_100 (by decide) (fun c => ?_) (fun c => ?_)
    · have : k = 24 := by omega
      subst this
      exact hQ w _ hl
    · match n, hk with
      | 0, hk => exact absurd (by omega) c
      | n + 1, hk =>
        have next : ∀ (w : z_Mm) (y : Int), z_ls w → z_Sem mLaw (0, z + k * 1024 + 1024) 132 [(8, z_i y), (7, z_i (k : Int)), (4, z_i 1), (6, z_r 3), (5, z_i i), (3, z_r 2), (2, z_r 1), (1, z_r 0), (0, z_r 1000)] [] (z_lsh tgs, w) Q := fun w y hl => by
          refine z_iconst dL_law_132 (by decide) ?_
          refine z_goto (tgt := 137) dL_law_133 (by decide) ?_
          refine z_istore (L' := [(4, z_i 1), (8, z_i y), (7, z_i (k : Int)), (6, z_r 3), (5, z_i i), (3, z_r 2), (2, z_r 1), (1, z_r 0), (0, z_r 1000)]) dL_law_137 (z_ltk rfl) rfl ?_
          refine z_iinc (L' := [(7, z_i ((k : Int) + 1)), (4, z_i 1), (8, z_i y), (6, z_r 3), (5, z_i i), (3, z_r 2), (2, z_r 1), (1, z_r 0), (0, z_r 1000)]) 2 dL_law_139 rfl (z_ltk rfl) rfl ⟨by omega, by omega⟩ ?_
          refine z_sub (L' := z_L96 ((k : Int) + 1) i) [0, 1, 3, 4, 5, 6, 7, 8] rfl ?_
          refine z_goto (tgt := 96) dL_law_142 (by decide) ?_
          have := L_law_96 hctor hz hQ n (k + 1) (by omega) w hl
          rw [show z + (k + 1) * 1024 = z + k * 1024 + 1024 by omega] at this
          exact this
        refine z_iload 1 dL_law_103 rfl ?_
        refine z_if_eq (tgt := 145) dL_law_105 (by decide) (fun c => absurd c (by decide)) (fun _ => ?_)
        refine z_aload 2 dL_law_108 rfl ?_
        refine z_aload_n 6 dL_law_110 rfl rfl ?_
        refine z_goA hctor dL_law_111 (by omega) hl (fun y w1 hl => ?_)
        refine z_istore (L' := [(8, z_i y), (7, z_i (k : Int)), (4, z_i 1), (6, z_r 3), (5, z_i i), (3, z_r 2), (2, z_r 1), (1, z_r 0), (0, z_r 1000)]) dL_law_114 (z_ltk rfl) rfl ?_
        refine z_iload 1 dL_law_116 rfl ?_
        refine z_bipush dL_law_118 (by decide) (by decide) ?_
        refine z_irem dL_law_120 (by decide) ?_
        refine z_if_gt (tgt := 132) dL_law_121 (by decide) (fun _ => next w1 y hl) (fun _ => ?_)
        refine z_aload 3 dL_law_124 rfl ?_
        refine z_goB hctor dL_law_126 (by omega) hl (fun w2 hl => ?_)
        refine z_if_eq (tgt := 136) dL_law_129 (by decide) (fun c => absurd c (by decide)) (fun _ => ?_)
        exact next w2 y hl
theorem L_law_56 {v : Int} (hpar : z_parses) (hset : z_setups) (hctor : z_ctorTG tgs) (hi : 0 ≤ i ∧ i < 2) (hz : z + 80000 ≤ 600000) (kk : ∀ w', z_Sem mLaw (0, z + 80000) 23 (z_L23 (i + 1)) [] (z_sh3, w') Q) : z_Sem mLaw (0, z) 56 (z_L23 i) [z_i v, z_i 7, z_r 0] (z_sh3, w) Q := by
  have hctor' := hctor
  obtain ⟨c1, c2, c3, c4⟩ := hctor
  have hlo3 : z_cls0 z_sh3 := fun c hcc => by
    simp only [List.mem_cons, List.not_mem_nil, or_false] at hcc
    rcases hcc with rfl | rfl | rfl <;> exact True.intro
  have hLv : z_lv 3 (z_L23 i) := by
    intro q hq
    simp only [List.mem_cons, List.not_mem_nil, or_false] at hq
    rcases hq with rfl | rfl | rfl | rfl | rfl | rfl
    · exact True.intro
    · exact True.intro
    · exact Or.inl (by decide)
    · exact Or.inl (by decide)
    · exact Or.inl (by decide)
    · exact Or.inr (Nat.le_refl _)
  refine z_iast (n := 8) dL_law_56 rfl (by decide) ?_
  refine z_genw (fun w1 hw1 => ?_)
  refine z_new (fl := [some none, some none, some none, some none, some none, some none, some none, some none, none]) z_k8 zcRL_9 ziRX8 zIRX8 ⟨rfl, fun j hj => by
    match j, hj with
    | 0, _ => exact Or.inr ⟨rfl, rfl⟩
    | 1, _ => exact Or.inr ⟨rfl, rfl⟩
    | 2, _ => exact Or.inr ⟨rfl, rfl⟩
    | 3, _ => exact Or.inr ⟨rfl, rfl⟩
    | 4, _ => exact Or.inr ⟨rfl, rfl⟩
    | 5, _ => exact Or.inr ⟨rfl, rfl⟩
    | 6, _ => exact Or.inr ⟨rfl, rfl⟩
    | 7, _ => exact Or.inr ⟨rfl, rfl⟩
    | 8, _ => exact Or.inl ⟨rfl, rfl⟩⟩ (by show 3 < 1000; decide) hlo3 hLv (fun q hq => by cases hq) (by decide) ⟨by show z + 9 ≤ 600000; omega, by show z + 9 ≤ 7302250; omega⟩ dL_law_57 ?_
  refine z_gennw (fun w2 hw2 hw3 => ?_)
  refine z_dup dL_law_60 rfl ?_
  have hc0 : z_vc 0 z_tg0 := fun o ho a ha => by
    simp only [List.mem_cons, List.not_mem_nil, or_false] at ho
    rcases ho with rfl | rfl | rfl | rfl | rfl | rfl | rfl | rfl | rfl <;> cases ha
  refine z_callL (M' := mX8_init) (pre := z_sh3) (c0 := z_tg0) (n := 3) (rest := [z_r 3]) (z_invI (As := []) zmX8_init znX8_init rfl rfl zlRL_275 ⟨z_lek rfl, z_lek rfl⟩ dL_law_61 rfl) zmX8_init.2.2.2.2 (fun _ _ _ _ _ _ _ _ _ _ _ => True.intro) rfl (z_lek rfl) (z_lek rfl) rfl (by show 0 ≤ 3; decide) hc0 hlo3 (z_lv_le hLv (by decide)) (fun q hq => by rw [List.mem_singleton.mp hq]; exact Or.inl (by decide)) (Nat.le_refl _) (by decide) ⟨by show z + 9 + 6892 ≤ 600000; omega, by show z + 9 + 6892 ≤ 7302250; omega⟩ ?_
  refine c4 _ _ (fun w4 er4 hj4 => ⟨rfl, c3, by show 3 + tgs.length ≤ 1000; omega, ?_⟩)
  have hj5 : z_JC (z_pw (fun a => 3 + a) (z_mL 3 w2 w4)) (z_ini 100) [] (0, fun _ => 0) er4 (fun _ => none) := hj4.fr (fun a ha _ => by
    rw [z_pw_at (by omega)]
    show (if 3 ≤ 3 + a ∧ 3 + a < 1000 then w4 (3 + a - 3) else w2 (3 + a)) = w4 a
    rw [if_pos (by omega), show 3 + a - 3 = a by omega])
  generalize z_mL 3 w2 w4 = w5 at hj5
  refine z_astore (L' := (6, z_r 3) :: z_L23 i) dL_law_64 (z_ltk rfl) rfl ?_
  refine z_aload 0 dL_law_66 rfl ?_
  refine z_aload_n 5 dL_law_68 rfl rfl ?_
  have hlen := z_lsh_len c1
  have hlo5 : z_cls0 (z_lsh tgs) := z_cls_map 3 hlo3 rfl c3 (by omega)
  have hLv6 : z_lv (z_lsh tgs).length ((6, z_r 3) :: z_L23 i) := fun q hq => by
    rcases List.mem_cons.mp hq with rfl | h
    · exact Or.inl (by rw [hlen]; decide)
    · exact z_vv_le (hLv q h) (by rw [hlen]; decide)
  refine z_callA (M' := mLset) (vs := [z_r 0]) (rest := [z_r 3]) (z_invS (As := [z_r 0]) zmL_setup ztL_setup zlRL_284 ⟨z_lek rfl, z_lek rfl⟩ dL_law_69 rfl) zmL_setup.2.2.2.2 (fun _ _ _ _ _ _ _ _ _ _ _ => True.intro) rfl (z_ar z_a0) (z_lek rfl) (z_lek rfl) hLv6 (fun q hq => by rw [List.mem_singleton.mp hq]; exact Or.inl (by show 3 < (z_lsh tgs).length; omega)) (Nat.le_refl _) (by decide) ⟨by show z + 9 + 6892 + 4096 ≤ 600000; omega, by show z + 9 + 6892 + 4096 ≤ 7302250; omega⟩ ?_
  refine hset (z_lsh tgs) w5 _ rfl hlen hlo5 (fun A0 sh6 w6 x v hok hn has hst hx1 htx hx hv hsame hf6 hlo6 hle6 => ?_)
  show z_Sem mLaw (0, z + 9 + 6892 + 4096) 72 ((6, z_r 3) :: z_L23 i) [z_r x, z_r 3] (sh6, w6) Q
  have hp6 : z_pull (fun a => 3 + a) sh6 tgs := z_pull_n c1 (fun a ha => by
    rw [hsame (3 + a) (by omega), List.getElem?_append_right (show z_sh3.length ≤ 3 + a by show 3 ≤ 3 + a; omega), show 3 + a - z_sh3.length = a by show 3 + a - 3 = a; omega])
  have hj6 : z_JC (z_pw (fun a => 3 + a) w6) (z_ini 100) [] (0, fun _ => 0) er4 (fun _ => none) := hj5.fr (fun a ha _ => by rw [z_pw_at (by omega), z_pw_at (by omega)]; exact hf6 _ (by omega) (by omega))
  have hxv : x ≠ v := fun e => by subst e; have := hst.1.symm.trans hst.2; cases this
  have hpull2 := z_pull_2 c1 c3 hp6 hst (by omega : 3 + 161 ≤ x) (by omega : 3 + 161 ≤ v) hxv
  have hr : ∀ a : Nat, a < 161 → z_r2 3 x v a = 3 + a := fun a ha => if_pos ha
  have hr161 : z_r2 3 x v 161 = x := by unfold z_r2; rw [if_neg (by decide), if_pos rfl]
  have hr162 : z_r2 3 x v 162 = v := by unfold z_r2; rw [if_neg (by decide), if_neg (by decide)]
  have hsclen : (tgs ++ [z_stc 162, (.inr (.inl (2, (z_stx A0).length)) : z_C)]).length = 163 := by rw [List.length_append, c1]; rfl
  have hcsc : z_cls0 (tgs ++ [z_stc 162, (.inr (.inl (2, (z_stx A0).length)) : z_C)]) := by
    unfold z_cls0
    rw [List.length_append]
    refine z_cl1_app c3 (fun c hc => ?_)
    simp only [List.mem_cons, List.not_mem_nil, or_false] at hc
    rcases hc with rfl | rfl
    · intro o ho b hb
      simp only [List.mem_cons, List.not_mem_nil, or_false] at ho
      rcases ho with rfl | rfl | rfl | rfl
      · have : 162 = b := by injection hb with h3; injection h3
        exact Or.inl (by rw [← this, c1]; show 162 < 161 + 2; decide)
      · cases hb
      · cases hb
      · cases hb
    · exact z_vc_row
  have hvs : [z_r 0, z_r 161].map (z_rv (z_r2 3 x v)) = [z_r 3, z_r x] := by
    show [z_r (z_rnm (z_r2 3 x v) 0), z_r (z_rnm (z_r2 3 x v) 161)] = _
    rw [z_rnm_lt (by decide), z_rnm_lt (by decide), hr 0 (by decide), hr161]
  refine z_callP (z_r2 3 x v) (sc := tgs ++ [z_stc 162, (.inr (.inl (2, (z_stx A0).length)) : z_C)]) (vs := [z_r 0, z_r 161]) (rest := []) (M' := mL_loads) (by rw [hvs]; exact z_invS (As := [z_r 3, z_r x]) zmL_loads ztL_loads zlRL_280 ⟨z_lek rfl, z_lek rfl⟩ dL_law_72 rfl) zmL_loads.2.2.2.2 (fun _ _ _ _ _ _ _ _ _ _ _ => True.intro) (by rw [hvs]; rfl) (z_ar (z_ar z_a0)) (z_lek rfl) (z_lek rfl) hpull2 (by omega) hcsc (Nat.le_refl _) ⟨by show z + 9 + 6892 + 4096 + 256 ≤ 600000; omega, by show z + 9 + 6892 + 4096 + 256 ≤ 7302250; omega⟩ ?_
  have hst' : z_mst (tgs ++ [z_stc 162, (.inr (.inl (2, (z_stx A0).length)) : z_C)]) (z_pw (z_r2 3 x v) w6) 161 162 (z_stx A0) := by
    refine ⟨has, ⟨by rw [List.getElem?_append_right (by omega), c1]; rfl, by rw [List.getElem?_append_right (by omega), c1]; rfl⟩, by rw [z_pw_at (by decide), hr161]; exact hx1, fun k b hk => ?_, by decide, by decide⟩
    rw [z_pw_at (by decide), hr162]
    exact htx k b hk
  refine L_loads (z_TGapp c2) (by omega) (by omega) hcsc hst' (z_stx_le hok.1 hn) (hj6.fr (fun a ha _ => by rw [z_pw_at (by omega), z_pw_at (by omega), hr a (by omega)])) rfl (fun T' ht' => (hpar A0 hok hn T' ht').1) (fun w7 T' ht' hj7 hf7 => ⟨rfl, fun y hy => by injection hy with hy; rw [← hy]; exact True.intro, ?_⟩)
  have hsm := (hpar A0 hok hn T' ht').2
  have hls : z_ls (z_mw (z_r2 3 x v) (tgs ++ [z_stc 162, (.inr (.inl (2, (z_stx A0).length)) : z_C)]).length w6 w7) := by
    refine ⟨(z_ld0 T').2.1, [], (0, T'.2), -2, hj7.fr (fun a ha _ => ?_), rfl, hsm.nmi hn⟩
    rw [z_pw_at (by omega), z_r3_lo (by omega)]
    have := z_mw_in (w := w6) (w' := w7) (r := z_r2 3 x v) (k := (tgs ++ [z_stc 162, (.inr (.inl (2, (z_stx A0).length)) : z_C)]).length) hpull2.2 (b := a) (by omega)
    rw [hr a (by omega)] at this
    exact this
  generalize z_mw (z_r2 3 x v) (tgs ++ [z_stc 162, (.inr (.inl (2, (z_stx A0).length)) : z_C)]).length w6 w7 = w8 at hls
  refine z_fgt 164 (by show 0 ≤ 164; decide) ?_
  have htk : sh6.take 164 = z_lsh tgs := by
    have := z_take_mo (sh := z_lsh tgs) (sh' := sh6) (fun b hb => hsame b (by omega))
    rw [hlen] at this
    exact this
  rw [show ((sh6, w8) : z_S).1.take 164 = z_lsh tgs from htk]
  show z_Sem mLaw (0, z + 9 + 6892 + 4096 + 256) 75 ((6, z_r 3) :: z_L23 i) [z_i 1] (z_lsh tgs, w8) Q
  refine z_if_eq (tgt := 90) dL_law_75 (by decide) (fun c => absurd c (by decide)) (fun _ => ?_)
  refine z_aload 0 dL_law_78 rfl ?_
  refine z_goB hctor' dL_law_80 (by omega) hls (fun w9 hls => ?_)
  refine z_if_eq (tgt := 90) dL_law_83 (by decide) (fun c => absurd c (by decide)) (fun _ => ?_)
  refine z_iconst dL_law_86 (by decide) ?_
  refine z_goto (tgt := 91) dL_law_87 (by decide) ?_
  refine z_istore (L' := [(4, z_i 1), (6, z_r 3), (5, z_i i), (3, z_r 2), (2, z_r 1), (1, z_r 0), (0, z_r 1000)]) dL_law_91 (z_ltk rfl) rfl ?_
  refine z_iconst dL_law_93 (by decide) ?_
  refine z_istore (L' := z_L96 0 i) dL_law_94 (z_ltk rfl) rfl ?_
  have h96 := L_law_96 (z := z + 9 + 6892 + 4096 + 256) (i := i) (Q := Q) hctor' (by omega) (fun w k hl => L_law_145 (z := z + 9 + 6892 + 4096 + 256 + 24 * 1024) hpar hctor' hi (by omega) hl (fun w' => z_wid (z' := z + 80000) (by omega) ⟨by show z + 80000 ≤ 600000; omega, by show z + 80000 ≤ 7302250; omega⟩ (kk w'))) 24 0 rfl w9 hls
  exact h96
theorem L_law_23 (hpar : z_parses) (hset : z_setups) (hctor : z_ctorTG tgs) (hQ : ∀ w', Q (some (z_i 1)) (z_sh3, w')) :
    ∀ (n i : Nat), i + n = 2 → ∀ w, z_Sem mLaw (0, 808 + 80000 * i) 23 (z_L23 (i : Int)) [] (z_sh3, w) Q
  | n, i, hi, w => by
    refine z_iload 0 dL_law_23 rfl ?_
    refine z_iconst dL_law_25 (by decide) ?_
    refine z_icmp_ge (tgt := 193) dL_law_26 (by decide) (fun c => ?_) (fun c => ?_)
    · refine z_iload 1 dL_law_193 rfl ?_
      exact z_ret (v := some (z_i 1)) dL_law_195 ⟨rfl, Or.inr (Or.inl ⟨rfl, by decide⟩)⟩ rfl (hQ w)
    · match n, hi with
      | 0, hi => exact absurd (by omega) c
      | n + 1, hi =>
        have go : ∀ v, z_Sem mLaw (0, 808 + 80000 * i) 56 (z_L23 (i : Int)) [z_i v, z_i 7, z_r 0] (z_sh3, w) Q := fun v => L_law_56 hpar hset hctor ⟨by omega, by omega⟩ (by omega) (fun w' => by
          have := L_law_23 hpar hset hctor hQ n (i + 1) (by omega) w'
          rw [show 808 + 80000 * (i + 1) = 808 + 80000 * i + 80000 by omega] at this
          exact this)
        refine z_iload 1 dL_law_29 rfl ?_
        refine z_if_eq (tgt := 193) dL_law_31 (by decide) (fun c => absurd c (by decide)) (fun _ => ?_)
        refine z_aload_n 4 dL_law_34 rfl rfl ?_
        refine z_bipush dL_law_35 (by decide) (by decide) ?_
        refine z_iload 0 dL_law_37 rfl ?_
        refine z_aload_n 5 dL_law_39 rfl rfl ?_
        refine z_slen dL_law_40 ?_
        refine z_icmp_ge (tgt := 51) dL_law_41 (by decide) (fun c2 => ?_) (fun c2 => ?_)
        · refine z_bipush dL_law_51 (by decide) (by decide) ?_
          refine z_iload 0 dL_law_53 rfl ?_
          refine z_imul dL_law_55 ⟨by omega, by omega⟩ ?_
          exact go _
        · refine z_aload_n 5 dL_law_44 rfl rfl ?_
          refine z_iload 0 dL_law_45 rfl ?_
          refine z_sald dL_law_47 ⟨by omega, by omega⟩ ?_
          refine z_goto (tgt := 56) dL_law_48 (by decide) ?_
          exact go _
theorem L_law (hpar : z_parses) (hset : z_setups) (hctor : z_ctorTG tgs) (hQ : ∀ w', Q (some (z_i 1)) (z_sh3, w')) : z_Sem mLaw (0, 0) 0 [(0, z_r 1000)] [] ([], w) Q := by
  have h0 : z_cls0 ([] : List z_C) := fun c hc => by cases hc
  refine z_bipush dL_law_0 (by decide) (by decide) ?_
  refine z_newa (N := 8) (kd := 0) (Or.inl ⟨rfl, rfl⟩) z_awi (by decide) (by show 0 < 1000; decide) h0 (fun q hq => by rw [List.mem_singleton.mp hq]; exact Or.inr (Nat.le_refl _)) (fun q hq => by cases hq) (by decide) ⟨z_lek rfl, z_lek rfl⟩ dL_law_2 ?_
  refine z_gennw (fun w1 _ _ => ?_)
  refine z_astore_n (L' := [(1, z_r 0), (0, z_r 1000)]) dL_law_4 rfl (z_ltk rfl) rfl ?_
  refine z_sipush dL_law_5 (by decide) (by decide) ?_
  refine z_newa (N := 400) (kd := 0) (Or.inl ⟨rfl, rfl⟩) z_awi (by decide) (by show 1 < 1000; decide) (fun c hc => by rw [List.mem_singleton.mp hc]; exact True.intro) (fun q hq => by
    simp only [List.mem_cons, List.not_mem_nil, or_false] at hq
    rcases hq with rfl | rfl
    · exact Or.inl (by show 0 < 1; decide)
    · exact Or.inr (Nat.le_refl _)) (fun q hq => by cases hq) (by decide) ⟨z_lek rfl, z_lek rfl⟩ dL_law_8 ?_
  refine z_gennw (fun w2 _ _ => ?_)
  refine z_astore_n (L' := [(2, z_r 1), (1, z_r 0), (0, z_r 1000)]) dL_law_10 rfl (z_ltk rfl) rfl ?_
  refine z_sipush dL_law_11 (by decide) (by decide) ?_
  refine z_newa (N := 400) (kd := 0) (Or.inl ⟨rfl, rfl⟩) z_awi (by decide) (by show 2 < 1000; decide) (fun c hc => by
    have hc' : c ∈ [(.inr (.inl (0, 8)) : z_C), .inr (.inl (0, 400))] := hc
    simp only [List.mem_cons, List.not_mem_nil, or_false] at hc'
    rcases hc' with rfl | rfl <;> exact True.intro) (fun q hq => by
    simp only [List.mem_cons, List.not_mem_nil, or_false] at hq
    rcases hq with rfl | rfl | rfl
    · exact Or.inl (by show 1 < 2; decide)
    · exact Or.inl (by show 0 < 2; decide)
    · exact Or.inr (Nat.le_refl _)) (fun q hq => by cases hq) (by decide) ⟨z_lek rfl, z_lek rfl⟩ dL_law_14 ?_
  refine z_gennw (fun w3 _ _ => ?_)
  refine z_astore_n (L' := [(3, z_r 2), (2, z_r 1), (1, z_r 0), (0, z_r 1000)]) dL_law_16 rfl (z_ltk rfl) rfl ?_
  refine z_iconst dL_law_17 (by decide) ?_
  refine z_istore (L' := [(4, z_i 1), (3, z_r 2), (2, z_r 1), (1, z_r 0), (0, z_r 1000)]) dL_law_18 (z_ltk rfl) rfl ?_
  refine z_iconst dL_law_20 (by decide) ?_
  refine z_istore (L' := z_L23 0) dL_law_21 (z_ltk rfl) rfl ?_
  exact L_law_23 hpar hset hctor hQ 2 0 rfl w3
end ZLAWW
