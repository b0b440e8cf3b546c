/-! UNDONE -/
abbrev mLu : z_M := mL_undone
section ZUNDONE
variable {M M' : z_M} {nz : Nat × Nat} {pc : Nat} {L : List (Nat × z_V)} {sh : List z_C} {w w0 : z_Mm} {Q : Option z_V → z_S → Prop} {A A' : z_A} {H H' : List z_A} {T T' : z_T} {er er' : Int} {s s' : Nat → Option z_A} {a2 : Nat} {t : List Int}
theorem F_tell {a b c d : Int} (h : ¬ ((0 ≤ a ∧ a < A 1 0) ∧ (0 ≤ b ∧ b < A 1 0) ∧ a ≠ b ∧ (0 ≤ c ∧ c ≤ 1) ∧ (0 ≤ d ∧ d ≤ 999))) : z_uc mX8_tell [z_r 0, z_i a, z_i b, z_i c, z_i d] A H T er s (-1) A H T er s := by
  have := uc_tell (A := A) (H := H) (T := T) (er := er) (s := s) (one := a) (oth := b) (kd := c) (n := d)
  rw [z_dtell, if_neg h] at this
  exact this
theorem F_drop {g : Int} (h : ¬ (0 ≤ g ∧ g < A 2 0)) : z_uc mX8_drop [z_r 0, z_i g] A H T er s (-1) A H T er s := by
  have := uc_drop (A := A) (H := H) (T := T) (er := er) (s := s) (g := g)
  rw [z_ddrop, if_neg h] at this
  exact this
theorem F_set {g n : Int} (h : ¬ (0 ≤ g ∧ g < A 2 0 ∧ 0 ≤ n ∧ n ≤ 999)) : z_uc mX8_set [z_r 0, z_i g, z_i n] A H T er s (-1) A H T er s := by
  have := uc_set (A := A) (H := H) (T := T) (er := er) (s := s) (g := g) (n := n)
  rw [z_dset, if_neg h] at this
  exact this
theorem F_turn {g : Int} (h : ¬ (0 ≤ g ∧ g < A 2 0)) : z_uc mX8_turn [z_r 0, z_i g] A H T er s (-1) A H T er s := by
  have := uc_turn (A := A) (H := H) (T := T) (er := er) (s := s) (g := g)
  rw [z_dturn, if_neg h] at this
  exact this
theorem F_pin {e t : Int} (h : ¬ (0 ≤ e ∧ e < A 1 0 ∧ 0 ≤ t ∧ t ≤ A 0 0)) : z_uc mX8_pin [z_r 0, z_i e, z_i t] A H T er s (-1) A H T er s := by
  have := uc_pin (A := A) (H := H) (T := T) (er := er) (s := s) (e := e) (t := t)
  rw [z_dpin, if_neg h] at this
  exact this
theorem F_pin0 (hA : z_ok A) : z_uc mX8_pin [z_r 0, z_i 0, z_i 0] A H T er s (-3) A H T er s := by
  have := uc_pin (A := A) (H := H) (T := T) (er := er) (s := s) (e := 0) (t := 0)
  have h0 := hA.1.1
  have h1 := hA.1.2.1
  rw [z_dpin, if_pos ⟨Int.le_refl _, by omega, Int.le_refl _, by omega⟩, if_pos (Or.inl rfl)] at this
  exact this
theorem F_unpin0 (hA : z_ok A) : z_uc mX8_unpin [z_r 0, z_i 0] A H T er s (-3) A H T er s := by
  have := uc_unpin (A := A) (H := H) (T := T) (er := er) (s := s) (e := 0)
  have h1 := hA.1.2.1
  rw [z_dunpin, if_pos ⟨Int.le_refl _, by omega⟩, if_pos hA.1.2.2.2.2.2] at this
  exact this
theorem F_end {n : Int} (h : ¬ (1 ≤ n ∧ n ≤ 999)) : z_uc mX8_end [z_r 0, z_i n] A H T er s (-1) A H T er s := by
  have := uc_end (A := A) (H := H) (T := T) (er := er) (s := s) (n := n)
  rw [z_dend, if_neg h] at this
  exact this
theorem F_rev {g : Int} (h : ¬ (0 ≤ g ∧ g < A 2 0)) : z_uc mX8_reverse [z_r 0, z_i g] A H T er s (-1) A H T er s := by
  have := uc_reverse (A := A) (H := H) (T := T) (er := er) (s := s) (g := g)
  rw [z_drev, if_neg h] at this
  exact this
theorem F_keep2 : z_uc mX8_keep [z_r 0, z_i 2] A H T er s (-1) A H T er s := by
  have := uc_keep (A := A) (H := H) (T := T) (er := er) (s := s) (i := 2)
  rw [if_neg (by decide), if_neg (by decide)] at this
  exact this
theorem F_restm : z_uc mX8_restore [z_r 0, z_i (-1)] A H T er s (-1) A H T er s := by
  have := uc_restore (A := A) (H := H) (T := T) (er := er) (s := s) (i := -1)
  rw [z_drest, if_neg (by decide)] at this
  exact this
theorem F_rest1 (h : s 1 = none) : z_uc mX8_restore [z_r 0, z_i 1] A H T er s (-2) A H T er s := by
  have := uc_restore (A := A) (H := H) (T := T) (er := er) (s := s) (i := 1)
  rw [z_drest, if_pos (by decide), show (1 : Int).toNat = 1 from rfl, h] at this
  exact this
theorem F_rest0 {B : z_A} (h : s 0 = some B) : z_uc mX8_restore [z_r 0, z_i 0] A H T er s (B 2 0) B (z_push H A) T er s := by
  have := uc_restore (A := A) (H := H) (T := T) (er := er) (s := s) (i := 0)
  rw [z_drest, if_pos (by decide), show (0 : Int).toNat = 0 from rfl, h] at this
  exact this
theorem F_bound : z_qb A (-1) 0 = -100000 := by rw [z_qb, if_neg (fun q => absurd q.1.1 (by decide))]
theorem F_way : z_qwy A 0 0 0 = -1 := by rw [z_qwy, if_neg (fun q => q.2.2 rfl)]
theorem F_pairs : z_qpr A 6 = -1 := by rw [z_qpr, if_neg (by decide)]
theorem F_tightest : z_qt A 0 0 0 = -1 := by rw [z_qt, if_neg (fun q => q.1.2.2 rfl)]
theorem F_spare : z_qsp A (A 2 0) = -1 := by rw [z_qsp, if_neg (fun q => absurd q.2 (Int.lt_irrefl _))]
theorem F_needs : z_qn A (-1) = -1 := by rw [z_qn, if_neg (fun q => absurd q.1 (by decide))]
theorem z_goL {As rest st : List z_V} {idx n : Nat} {v : Int} (hme : z_me M' n) (hin : Cond.instanceMethod M'.1 ∈ z_tb) (hse : Cond.selects RX8 M'.1 M'.1 ∈ z_tb) (hlk : z_lk M.1.cls idx M') (hrm : z_rm M M') (hd : decode M.2.1 pc = .ok (.invokevirtual idx, 3)) (hT : z_isTG sh 0)
    (hst : st = As.reverse ++ z_r 0 :: rest) (hn : As.length = n) (h1 : ∀ v ∈ As, z_c1 v) (h2 : As.length + 1 ≤ M'.2.2.1) (hw : z_wds rest ≤ 8) (hcc : M'.2.2.2.2.cells = 0 ∧ M'.2.2.2.2.slots = 0) (hu : z_uc M' (z_r 0 :: As) A H T er s v A' H' T' er' s') (hl : z_LX a2 t w A H T er s) (hr2 : 161 ≤ a2)
    (kk : ∀ w', z_LX a2 t w' A' H' T' er' s' → z_Sem M nz (pc + 3) L (z_i v :: rest) (sh, w') Q) : z_Sem M nz pc L st (sh, w) Q :=
  z_goU hme hin hse hlk hrm hd hT hst hn h1 h2 hw hcc hu hl.1 (fun w' h1 f => kk w' ⟨h1, hl.2.cg (f a2 hr2)⟩)
theorem L_undone_66 {n0 z : Nat} {k6 k7 : Int} (hT : z_isTG sh 0) (hr2 : 161 ≤ a2) (hs1 : s 1 = none) (hl : z_LX a2 t w A H T er s) (hQ : ∀ w, z_LX a2 t w A H T er s → z_Sem mLu (n0, z) 282 [(6, z_i 1), (5, z_i (A 2 0)), (4, z_i ((z_tl A).length : Int)), (0, z_r 0), (1, z_r 161), (2, z_r 162), (3, z_r 163)] [] (sh, w) Q) :
    z_Sem mLu (n0, z) 66 [(6, z_i k6), (5, z_i (A 2 0)), (4, z_i ((z_tl A).length : Int)), (0, z_r 0), (1, z_r 161), (2, z_r 162), (3, z_r 163)] [] (sh, w) Q := by
  have hok := hl.1.1.1
  refine z_aload_n 3 dL_undone_66 rfl rfl ?_
  refine z_iconst dL_undone_67 (by decide) ?_
  refine z_iconst dL_undone_68 (by decide) ?_
  refine z_iconst dL_undone_69 (by decide) ?_
  refine z_iconst dL_undone_70 (by decide) ?_
  refine z_goL (As := [z_i 0, z_i 0, z_i 0, z_i 1]) (rest := []) zmX8_tell znX8_tell zsX8_tell zlRL_106 ⟨z_lek rfl, z_lek rfl⟩ dL_undone_71 hT rfl rfl (z_ai (z_ai (z_ai (z_ai z_a0)))) (z_lek rfl) (z_lek rfl) ⟨rfl, rfl⟩ (F_tell (fun q => q.2.2.1 rfl)) hl hr2 (fun w hl => ?_)
  refine z_iconst dL_undone_74 (by decide) ?_
  refine z_icmp_ne (tgt := 279) dL_undone_75 (by decide) (fun c => absurd rfl c) (fun _ => ?_)
  refine z_aload_n 3 dL_undone_78 rfl rfl ?_
  refine z_iconst dL_undone_79 (by decide) ?_
  refine z_iconst dL_undone_80 (by decide) ?_
  refine z_iconst dL_undone_81 (by decide) ?_
  refine z_iconst dL_undone_82 (by decide) ?_
  refine z_goL (As := [z_i 0, z_i 1, z_i 2, z_i 1]) (rest := []) zmX8_tell znX8_tell zsX8_tell zlRL_106 ⟨z_lek rfl, z_lek rfl⟩ dL_undone_83 hT rfl rfl (z_ai (z_ai (z_ai (z_ai z_a0)))) (z_lek rfl) (z_lek rfl) ⟨rfl, rfl⟩ (F_tell (fun q => absurd q.2.2.2.1.2 (by decide))) hl hr2 (fun w hl => ?_)
  refine z_iconst dL_undone_86 (by decide) ?_
  refine z_icmp_ne (tgt := 279) dL_undone_87 (by decide) (fun c => absurd rfl c) (fun _ => ?_)
  refine z_aload_n 3 dL_undone_90 rfl rfl ?_
  refine z_iload 1 dL_undone_91 rfl ?_
  refine z_goL (As := [z_i (A 2 0)]) (rest := []) zmX8_drop znX8_drop zsX8_drop zlRL_110 ⟨z_lek rfl, z_lek rfl⟩ dL_undone_93 hT rfl rfl (z_ai z_a0) (z_lek rfl) (z_lek rfl) ⟨rfl, rfl⟩ (F_drop (fun q => absurd q.2 (Int.lt_irrefl _))) hl hr2 (fun w hl => ?_)
  refine z_iconst dL_undone_96 (by decide) ?_
  refine z_icmp_ne (tgt := 279) dL_undone_97 (by decide) (fun c => absurd rfl c) (fun _ => ?_)
  refine z_aload_n 3 dL_undone_100 rfl rfl ?_
  refine z_iconst dL_undone_101 (by decide) ?_
  refine z_iconst dL_undone_102 (by decide) ?_
  refine z_goL (As := [z_i (-1), z_i 0]) (rest := []) zmX8_set znX8_set zsX8_set zlRL_113 ⟨z_lek rfl, z_lek rfl⟩ dL_undone_103 hT rfl rfl (z_ai (z_ai z_a0)) (z_lek rfl) (z_lek rfl) ⟨rfl, rfl⟩ (F_set (fun q => absurd q.1 (by decide))) hl hr2 (fun w hl => ?_)
  refine z_iconst dL_undone_106 (by decide) ?_
  refine z_icmp_ne (tgt := 279) dL_undone_107 (by decide) (fun c => absurd rfl c) (fun _ => ?_)
  refine z_aload_n 3 dL_undone_110 rfl rfl ?_
  refine z_iload 1 dL_undone_111 rfl ?_
  refine z_goL (As := [z_i (A 2 0)]) (rest := []) zmX8_turn znX8_turn zsX8_turn zlRL_116 ⟨z_lek rfl, z_lek rfl⟩ dL_undone_113 hT rfl rfl (z_ai z_a0) (z_lek rfl) (z_lek rfl) ⟨rfl, rfl⟩ (F_turn (fun q => absurd q.2 (Int.lt_irrefl _))) hl hr2 (fun w hl => ?_)
  refine z_iconst dL_undone_116 (by decide) ?_
  refine z_icmp_ne (tgt := 279) dL_undone_117 (by decide) (fun c => absurd rfl c) (fun _ => ?_)
  refine z_aload_n 3 dL_undone_120 rfl rfl ?_
  refine z_aload_n 3 dL_undone_121 rfl rfl ?_
  refine z_iconst dL_undone_122 (by decide) ?_
  refine z_goL (As := [z_i 1]) (rest := [z_r 0]) zmX8_value znX8_value zsX8_value zlRL_103 ⟨z_lek rfl, z_lek rfl⟩ dL_undone_123 hT rfl rfl (z_ai z_a0) (z_lek rfl) (z_lek rfl) ⟨rfl, rfl⟩ (uc_value.as (v' := A 1 0) rfl) hl hr2 (fun w hl => ?_)
  refine z_iconst dL_undone_126 (by decide) ?_
  refine z_goL (As := [z_i (A 1 0), z_i 0]) (rest := []) zmX8_pin znX8_pin zsX8_pin zlRL_119 ⟨z_lek rfl, z_lek rfl⟩ dL_undone_127 hT rfl rfl (z_ai (z_ai z_a0)) (z_lek rfl) (z_lek rfl) ⟨rfl, rfl⟩ (F_pin (fun q => absurd q.2.1 (Int.lt_irrefl _))) hl hr2 (fun w hl => ?_)
  refine z_iconst dL_undone_130 (by decide) ?_
  refine z_icmp_ne (tgt := 279) dL_undone_131 (by decide) (fun c => absurd rfl c) (fun _ => ?_)
  refine z_aload_n 3 dL_undone_134 rfl rfl ?_
  refine z_iconst dL_undone_135 (by decide) ?_
  refine z_iconst dL_undone_136 (by decide) ?_
  refine z_goL (As := [z_i 0, z_i 0]) (rest := []) zmX8_pin znX8_pin zsX8_pin zlRL_119 ⟨z_lek rfl, z_lek rfl⟩ dL_undone_137 hT rfl rfl (z_ai (z_ai z_a0)) (z_lek rfl) (z_lek rfl) ⟨rfl, rfl⟩ (F_pin0 hok) hl hr2 (fun w hl => ?_)
  refine z_bipush dL_undone_140 (by decide) (by decide) ?_
  refine z_icmp_ne (tgt := 279) dL_undone_142 (by decide) (fun c => absurd rfl c) (fun _ => ?_)
  refine z_aload_n 3 dL_undone_145 rfl rfl ?_
  refine z_iconst dL_undone_146 (by decide) ?_
  refine z_goL (As := [z_i 0]) (rest := []) zmX8_unpin znX8_unpin zsX8_unpin zlRL_122 ⟨z_lek rfl, z_lek rfl⟩ dL_undone_147 hT rfl rfl (z_ai z_a0) (z_lek rfl) (z_lek rfl) ⟨rfl, rfl⟩ (F_unpin0 hok) hl hr2 (fun w hl => ?_)
  refine z_bipush dL_undone_150 (by decide) (by decide) ?_
  refine z_icmp_ne (tgt := 279) dL_undone_152 (by decide) (fun c => absurd rfl c) (fun _ => ?_)
  refine z_aload_n 3 dL_undone_155 rfl rfl ?_
  refine z_iconst dL_undone_156 (by decide) ?_
  refine z_goL (As := [z_i 0]) (rest := []) zmX8_end znX8_end zsX8_end zlRL_125 ⟨z_lek rfl, z_lek rfl⟩ dL_undone_157 hT rfl rfl (z_ai z_a0) (z_lek rfl) (z_lek rfl) ⟨rfl, rfl⟩ (F_end (fun q => absurd q.1 (by decide))) hl hr2 (fun w hl => ?_)
  refine z_iconst dL_undone_160 (by decide) ?_
  refine z_icmp_ne (tgt := 279) dL_undone_161 (by decide) (fun c => absurd rfl c) (fun _ => ?_)
  refine z_aload_n 3 dL_undone_164 rfl rfl ?_
  refine z_iload 1 dL_undone_165 rfl ?_
  refine z_goL (As := [z_i (A 2 0)]) (rest := []) zmX8_reverse znX8_reverse zsX8_reverse zlRL_128 ⟨z_lek rfl, z_lek rfl⟩ dL_undone_167 hT rfl rfl (z_ai z_a0) (z_lek rfl) (z_lek rfl) ⟨rfl, rfl⟩ (F_rev (fun q => absurd q.2 (Int.lt_irrefl _))) hl hr2 (fun w hl => ?_)
  refine z_iconst dL_undone_170 (by decide) ?_
  refine z_icmp_ne (tgt := 279) dL_undone_171 (by decide) (fun c => absurd rfl c) (fun _ => ?_)
  refine z_aload_n 3 dL_undone_174 rfl rfl ?_
  refine z_iconst dL_undone_175 (by decide) ?_
  refine z_goL (As := [z_i 2]) (rest := []) zmX8_keep znX8_keep zsX8_keep zlRL_259 ⟨z_lek rfl, z_lek rfl⟩ dL_undone_176 hT rfl rfl (z_ai z_a0) (z_lek rfl) (z_lek rfl) ⟨rfl, rfl⟩ F_keep2 hl hr2 (fun w hl => ?_)
  refine z_iconst dL_undone_179 (by decide) ?_
  refine z_icmp_ne (tgt := 279) dL_undone_180 (by decide) (fun c => absurd rfl c) (fun _ => ?_)
  refine z_aload_n 3 dL_undone_183 rfl rfl ?_
  refine z_iconst dL_undone_184 (by decide) ?_
  refine z_goL (As := [z_i (-1)]) (rest := []) zmX8_restore znX8_restore zsX8_restore zlRL_265 ⟨z_lek rfl, z_lek rfl⟩ dL_undone_185 hT rfl rfl (z_ai z_a0) (z_lek rfl) (z_lek rfl) ⟨rfl, rfl⟩ F_restm hl hr2 (fun w hl => ?_)
  refine z_iconst dL_undone_188 (by decide) ?_
  refine z_icmp_ne (tgt := 279) dL_undone_189 (by decide) (fun c => absurd rfl c) (fun _ => ?_)
  refine z_aload_n 3 dL_undone_192 rfl rfl ?_
  refine z_iconst dL_undone_193 (by decide) ?_
  refine z_goL (As := [z_i 1]) (rest := []) zmX8_restore znX8_restore zsX8_restore zlRL_265 ⟨z_lek rfl, z_lek rfl⟩ dL_undone_194 hT rfl rfl (z_ai z_a0) (z_lek rfl) (z_lek rfl) ⟨rfl, rfl⟩ (F_rest1 hs1) hl hr2 (fun w hl => ?_)
  refine z_bipush dL_undone_197 (by decide) (by decide) ?_
  refine z_icmp_ne (tgt := 279) dL_undone_199 (by decide) (fun c => absurd rfl c) (fun _ => ?_)
  refine z_aload_n 3 dL_undone_202 rfl rfl ?_
  refine z_bipush dL_undone_203 (by decide) (by decide) ?_
  refine z_goL (As := [z_i 13]) (rest := []) zmX8_value znX8_value zsX8_value zlRL_103 ⟨z_lek rfl, z_lek rfl⟩ dL_undone_205 hT rfl rfl (z_ai z_a0) (z_lek rfl) (z_lek rfl) ⟨rfl, rfl⟩ (uc_value.as (v' := -1) rfl) hl hr2 (fun w hl => ?_)
  refine z_iconst dL_undone_208 (by decide) ?_
  refine z_icmp_ne (tgt := 279) dL_undone_209 (by decide) (fun c => absurd rfl c) (fun _ => ?_)
  refine z_aload_n 3 dL_undone_212 rfl rfl ?_
  refine z_iconst dL_undone_213 (by decide) ?_
  refine z_iconst dL_undone_214 (by decide) ?_
  refine z_goL (As := [z_i (-1), z_i 0]) (rest := []) zmX8_bound znX8_bound zsX8_bound zlRL_178 ⟨z_lek rfl, z_lek rfl⟩ dL_undone_215 hT rfl rfl (z_ai (z_ai z_a0)) (z_lek rfl) (z_lek rfl) ⟨rfl, rfl⟩ (uc_bound.as (v' := -100000) F_bound) hl hr2 (fun w hl => ?_)
  refine z_ldcw (n := -100000) zkRL_268 dL_undone_218 (by decide) (by decide) ?_
  refine z_icmp_ne (tgt := 279) dL_undone_221 (by decide) (fun c => absurd rfl c) (fun _ => ?_)
  refine z_aload_n 3 dL_undone_224 rfl rfl ?_
  refine z_iconst dL_undone_225 (by decide) ?_
  refine z_iconst dL_undone_226 (by decide) ?_
  refine z_iconst dL_undone_227 (by decide) ?_
  refine z_goL (As := [z_i 0, z_i 0, z_i 0]) (rest := []) zmX8_way znX8_way zsX8_way zlRL_184 ⟨z_lek rfl, z_lek rfl⟩ dL_undone_228 hT rfl rfl (z_ai (z_ai (z_ai z_a0))) (z_lek rfl) (z_lek rfl) ⟨rfl, rfl⟩ (uc_way.as (v' := -1) F_way) hl hr2 (fun w hl => ?_)
  refine z_iconst dL_undone_231 (by decide) ?_
  refine z_icmp_ne (tgt := 279) dL_undone_232 (by decide) (fun c => absurd rfl c) (fun _ => ?_)
  refine z_aload_n 3 dL_undone_235 rfl rfl ?_
  refine z_bipush dL_undone_236 (by decide) (by decide) ?_
  refine z_goL (As := [z_i 6]) (rest := []) zmX8_pairs znX8_pairs zsX8_pairs zlRL_269 ⟨z_lek rfl, z_lek rfl⟩ dL_undone_238 hT rfl rfl (z_ai z_a0) (z_lek rfl) (z_lek rfl) ⟨rfl, rfl⟩ (uc_pairs.as (v' := -1) F_pairs) hl hr2 (fun w hl => ?_)
  refine z_iconst dL_undone_241 (by decide) ?_
  refine z_icmp_ne (tgt := 279) dL_undone_242 (by decide) (fun c => absurd rfl c) (fun _ => ?_)
  refine z_aload_n 3 dL_undone_245 rfl rfl ?_
  refine z_iconst dL_undone_246 (by decide) ?_
  refine z_iconst dL_undone_247 (by decide) ?_
  refine z_iconst dL_undone_248 (by decide) ?_
  refine z_goL (As := [z_i 0, z_i 0, z_i 0]) (rest := []) zmX8_tightest znX8_tightest zsX8_tightest zlRL_215 ⟨z_lek rfl, z_lek rfl⟩ dL_undone_249 hT rfl rfl (z_ai (z_ai (z_ai z_a0))) (z_lek rfl) (z_lek rfl) ⟨rfl, rfl⟩ (uc_tightest.as (v' := -1) F_tightest) hl hr2 (fun w hl => ?_)
  refine z_iconst dL_undone_252 (by decide) ?_
  refine z_icmp_ne (tgt := 279) dL_undone_253 (by decide) (fun c => absurd rfl c) (fun _ => ?_)
  refine z_aload_n 3 dL_undone_256 rfl rfl ?_
  refine z_iload 1 dL_undone_257 rfl ?_
  refine z_goL (As := [z_i (A 2 0)]) (rest := []) zmX8_spare znX8_spare zsX8_spare zlRL_228 ⟨z_lek rfl, z_lek rfl⟩ dL_undone_259 hT rfl rfl (z_ai z_a0) (z_lek rfl) (z_lek rfl) ⟨rfl, rfl⟩ (uc_spare.as (v' := -1) F_spare) hl hr2 (fun w hl => ?_)
  refine z_iconst dL_undone_262 (by decide) ?_
  refine z_icmp_ne (tgt := 279) dL_undone_263 (by decide) (fun c => absurd rfl c) (fun _ => ?_)
  refine z_aload_n 3 dL_undone_266 rfl rfl ?_
  refine z_iconst dL_undone_267 (by decide) ?_
  refine z_goL (As := [z_i (-1)]) (rest := []) zmX8_needs znX8_needs zsX8_needs zlRL_272 ⟨z_lek rfl, z_lek rfl⟩ dL_undone_268 hT rfl rfl (z_ai z_a0) (z_lek rfl) (z_lek rfl) ⟨rfl, rfl⟩ (uc_needs.as (v' := -1) F_needs) hl hr2 (fun w hl => ?_)
  refine z_iconst dL_undone_271 (by decide) ?_
  refine z_icmp_ne (tgt := 279) dL_undone_272 (by decide) (fun c => absurd rfl c) (fun _ => ?_)
  refine z_iconst dL_undone_275 (by decide) ?_
  refine z_goto (tgt := 280) dL_undone_276 (by decide) ?_
  refine z_istore (L' := [(6, z_i 1), (5, z_i (A 2 0)), (4, z_i ((z_tl A).length : Int)), (0, z_r 0), (1, z_r 161), (2, z_r 162), (3, z_r 163)]) dL_undone_280 (z_ltk rfl) rfl ?_
  exact hQ w hl
end ZUNDONE
