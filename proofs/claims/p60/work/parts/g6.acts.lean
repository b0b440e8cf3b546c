/-! ACTS, walked -/
def z_acx (w0 : z_Mm) (a1 : Nat) (w : z_Mm) (A : z_A) (H : List z_A) (T : z_T) (er : Int) (s : Nat → Option z_A) : Prop := z_JC w A H T er s ∧ ∀ a : Nat, 161 ≤ a → a ≠ a1 → w a = w0 a
abbrev mLa : z_M := (yL_acts, cL_acts, 7, some .int, { frames := 9, cells := 1024, slots := 1024, locals := 195 })
section ZACTS
variable {M M' : z_M} {nz : Nat × Nat} {pc : Nat} {L : List (Nat × z_V)} {sh : List z_C} {w w0 : z_Mm} {Q : Option z_V → z_S → Prop} {A A' : z_A} {H H' : List z_A} {T T' : z_T} {er er' : Int} {s s' : Nat → Option z_A} {a1 : Nat}
theorem z_goV {As rest st : List z_V} {idx n : Nat} {v : Int} (hme : z_me M' n) (hin : Cond.instanceMethod M'.1 ∈ z_tb) (hse : Cond.selects RX8 M'.1 M'.1 ∈ z_tb) (hlk : z_lk M.1.cls idx M') (hrm : z_rm M M') (hd : decode M.2.1 pc = .ok (.invokevirtual idx, 3)) (hT : z_isTG sh 0)
    (hst : st = As.reverse ++ z_r 0 :: rest) (hn : As.length = n) (h1 : ∀ v ∈ As, z_c1 v) (h2 : As.length + 1 ≤ M'.2.2.1) (hw : z_wds rest ≤ 8) (hcc : M'.2.2.2.2.cells = 0 ∧ M'.2.2.2.2.slots = 0) (hu : z_uc M' (z_r 0 :: As) A H T er s v A' H' T' er' s') (hl : z_acx w0 a1 w A H T er s)
    (kk : ∀ (v : Int) (w' : z_Mm), z_acx w0 a1 w' A' H' T' er' s' → z_Sem M nz (pc + 3) L (z_i v :: rest) (sh, w') Q) : z_Sem M nz pc L st (sh, w) Q :=
  z_goU hme hin hse hlk hrm hd hT hst hn h1 h2 hw hcc hu hl.1 (fun w' h1 f => kk v w' ⟨h1, fun a ha hb => (f a ha).trans (hl.2 a ha hb)⟩)
theorem z_goW {As rest st : List z_V} {idx n : Nat} {v : Int} (hme : z_me M' n) (hin : Cond.instanceMethod M'.1 ∈ z_tb) (hse : Cond.selects RX8 M'.1 M'.1 ∈ z_tb) (hlk : z_lk M.1.cls idx M') (hrm : z_rm M M') (hd : decode M.2.1 pc = .ok (.invokevirtual idx, 3)) (hT : z_isTG sh 0)
    (hst : st = As.reverse ++ z_r 0 :: rest) (hn : As.length = n) (h1 : ∀ v ∈ As, z_c1 v) (h2 : As.length + 1 ≤ M'.2.2.1) (hw : z_wds rest ≤ 8) (hcc : M'.2.2.2.2.cells = 0 ∧ M'.2.2.2.2.slots = 0) (hu : z_uc M' (z_r 0 :: As) A H T er s v A' H' T' er' s') (hl : z_acx w0 a1 w A H T er s)
    (kk : ∀ w', z_acx w0 a1 w' A' H' T' er' s' → z_Sem M nz (pc + 3) L (z_i v :: rest) (sh, w') Q) : z_Sem M nz pc L st (sh, w) Q :=
  z_goU hme hin hse hlk hrm hd hT hst hn h1 h2 hw hcc hu hl.1 (fun w' h1 f => kk w' ⟨h1, fun a ha hb => (f a ha).trans (hl.2 a ha hb)⟩)
theorem z_goD {rest st : List z_V} (hcls : M.1.cls = RL) (hrm : z_rm M mL_draw) (hd : decode M.2.1 pc = .ok (.invokestatic 62, 3)) (hh : sh[a1]? = some (.inr (.inl (0, 8)))) (hst : st = z_r a1 :: rest) (hw : z_wds rest ≤ 8) (kk : ∀ y w', 0 ≤ y ∧ y ≤ 32767 → (∀ a : Nat, a ≠ a1 → w' a = w a) → z_Sem M nz (pc + 3) L (z_i y :: rest) (sh, w') Q) : z_Sem M nz pc L st (sh, w) Q := by
  have hlk : z_lk M.1.cls 62 mL_draw := by rw [hcls]; exact zlRL_62
  refine z_callS (As := [z_r a1]) (rest := rest) zmL_draw ztL_draw hlk hrm hd (by rw [hst]; rfl) rfl (z_ar z_a0) (z_lek rfl) hw ⟨rfl, rfl⟩ (t_L_draw hh (fun w1 e1 => ?_))
  exact kk _ w1 (z_and15 _) (fun a ha => by rw [e1]; exact z_Wf ha)
theorem z_goE {rest st : List z_V} (hcls : M.1.cls = RL) (hrm : z_rm M mL_draw) (hd : decode M.2.1 pc = .ok (.invokestatic 62, 3)) (hh : sh[a1]? = some (.inr (.inl (0, 8)))) (h161 : 161 ≤ a1) (hst : st = z_r a1 :: rest) (hw : z_wds rest ≤ 8) (hl : z_acx w0 a1 w A H T er s) (kk : ∀ y w', 0 ≤ y ∧ y ≤ 32767 → z_acx w0 a1 w' A H T er s → z_Sem M nz (pc + 3) L (z_i y :: rest) (sh, w') Q) : z_Sem M nz pc L st (sh, w) Q :=
  z_goD hcls hrm hd hh hst hw (fun y w' hy f => kk y w' hy ⟨hl.1.fr (fun a ha _ => f a (by omega)), fun a ha hb => (f a hb).trans (hl.2 a ha hb)⟩)
/-- the end of an act: the object holds a plan with names as wanted, the tape nothing -/
def z_aq (w0 : z_Mm) (n0 a1 : Nat) (er : Int) (s : Nat → Option z_A) (sh : List z_C) (Q : Option z_V → z_S → Prop) : Prop := ∀ (y : Int) (w : z_Mm) (A : z_A) (H : List z_A) (T : z_T), z_JC w A H T er s → T.1 = 0 → z_nmi A → (∀ a : Nat, 161 ≤ a → a ≠ a1 → a < n0 → w a = w0 a) → Q (some (z_i y)) (sh, w)
theorem L_acts_193 {z : Nat} {v g b a : Int} (hQ : z_aq w0 sh.length a1 er s sh Q) (hl : z_acx w0 a1 w A H T er s) (hT0 : T.1 = 0) (hn : z_nmi A) : z_Sem mLa (sh.length, z) 193 [(5, z_i v), (4, z_i g), (3, z_i b), (2, z_i a), (0, z_r 0), (1, z_r a1)] [] (sh, w) Q := by
  refine z_iload 0 dL_acts_193 rfl ?_
  refine z_if_lt (tgt := 202) dL_acts_195 (by decide) (fun _ => ?_) (fun _ => ?_)
  · refine z_iconst dL_acts_202 (by decide) ?_
    exact z_ret (v := some (z_i 0)) dL_acts_203 ⟨rfl, Or.inl rfl⟩ rfl (hQ 0 w A H T hl.1 hT0 hn (fun a ha hb _ => hl.2 a ha hb))
  · refine z_iconst dL_acts_198 (by decide) ?_
    refine z_goto (tgt := 203) dL_acts_199 (by decide) ?_
    exact z_ret (v := some (z_i 1)) dL_acts_203 ⟨rfl, Or.inl rfl⟩ rfl (hQ 1 w A H T hl.1 hT0 hn (fun a ha hb _ => hl.2 a ha hb))
theorem L_acts_218 {z : Nat} {v g b a : Int} (hQ : z_aq w0 sh.length a1 er s sh Q) (hl : z_acx w0 a1 w A H T er s) (hT0 : T.1 = 0) (hn : z_nmi A) : z_Sem mLa (sh.length, z) 218 [(5, z_i v), (4, z_i g), (3, z_i b), (2, z_i a), (0, z_r 0), (1, z_r a1)] [] (sh, w) Q := by
  refine z_iload 0 dL_acts_218 rfl ?_
  refine z_if_lt (tgt := 227) dL_acts_220 (by decide) (fun _ => ?_) (fun _ => ?_)
  · refine z_iconst dL_acts_227 (by decide) ?_
    exact z_ret (v := some (z_i 0)) dL_acts_228 ⟨rfl, Or.inl rfl⟩ rfl (hQ 0 w A H T hl.1 hT0 hn (fun a ha hb _ => hl.2 a ha hb))
  · refine z_iconst dL_acts_223 (by decide) ?_
    refine z_goto (tgt := 228) dL_acts_224 (by decide) ?_
    exact z_ret (v := some (z_i 1)) dL_acts_228 ⟨rfl, Or.inl rfl⟩ rfl (hQ 1 w A H T hl.1 hT0 hn (fun a ha hb _ => hl.2 a ha hb))
theorem L_acts_255 {z : Nat} {v g b a : Int} (hQ : z_aq w0 sh.length a1 er s sh Q) (hl : z_acx w0 a1 w A H T er s) (hT0 : T.1 = 0) (hn : z_nmi A) : z_Sem mLa (sh.length, z) 255 [(5, z_i v), (4, z_i g), (3, z_i b), (2, z_i a), (0, z_r 0), (1, z_r a1)] [] (sh, w) Q := by
  refine z_iload 0 dL_acts_255 rfl ?_
  refine z_if_lt (tgt := 264) dL_acts_257 (by decide) (fun _ => ?_) (fun _ => ?_)
  · refine z_iconst dL_acts_264 (by decide) ?_
    exact z_ret (v := some (z_i 0)) dL_acts_265 ⟨rfl, Or.inl rfl⟩ rfl (hQ 0 w A H T hl.1 hT0 hn (fun a ha hb _ => hl.2 a ha hb))
  · refine z_iconst dL_acts_260 (by decide) ?_
    refine z_goto (tgt := 265) dL_acts_261 (by decide) ?_
    exact z_ret (v := some (z_i 1)) dL_acts_265 ⟨rfl, Or.inl rfl⟩ rfl (hQ 1 w A H T hl.1 hT0 hn (fun a ha hb _ => hl.2 a ha hb))
theorem L_acts_274 {z : Nat} {v g b a : Int} (hQ : z_aq w0 sh.length a1 er s sh Q) (hl : z_acx w0 a1 w A H T er s) (hT0 : T.1 = 0) (hn : z_nmi A) : z_Sem mLa (sh.length, z) 274 [(5, z_i v), (4, z_i g), (3, z_i b), (2, z_i a), (0, z_r 0), (1, z_r a1)] [] (sh, w) Q := by
  refine z_iload 0 dL_acts_274 rfl ?_
  refine z_if_lt (tgt := 283) dL_acts_276 (by decide) (fun _ => ?_) (fun _ => ?_)
  · refine z_iconst dL_acts_283 (by decide) ?_
    exact z_ret (v := some (z_i 0)) dL_acts_284 ⟨rfl, Or.inl rfl⟩ rfl (hQ 0 w A H T hl.1 hT0 hn (fun a ha hb _ => hl.2 a ha hb))
  · refine z_iconst dL_acts_279 (by decide) ?_
    refine z_goto (tgt := 284) dL_acts_280 (by decide) ?_
    exact z_ret (v := some (z_i 1)) dL_acts_284 ⟨rfl, Or.inl rfl⟩ rfl (hQ 1 w A H T hl.1 hT0 hn (fun a ha hb _ => hl.2 a ha hb))
theorem L_acts_403 {z : Nat} {v g b a : Int} (hQ : z_aq w0 sh.length a1 er s sh Q) (hl : z_acx w0 a1 w A H T er s) (hT0 : T.1 = 0) (hn : z_nmi A) : z_Sem mLa (sh.length, z) 403 [(5, z_i v), (4, z_i g), (3, z_i b), (2, z_i a), (0, z_r 0), (1, z_r a1)] [] (sh, w) Q := by
  refine z_iload 0 dL_acts_403 rfl ?_
  refine z_if_lt (tgt := 412) dL_acts_405 (by decide) (fun _ => ?_) (fun _ => ?_)
  · refine z_iconst dL_acts_412 (by decide) ?_
    exact z_ret (v := some (z_i 0)) dL_acts_413 ⟨rfl, Or.inl rfl⟩ rfl (hQ 0 w A H T hl.1 hT0 hn (fun a ha hb _ => hl.2 a ha hb))
  · refine z_iconst dL_acts_408 (by decide) ?_
    refine z_goto (tgt := 413) dL_acts_409 (by decide) ?_
    exact z_ret (v := some (z_i 1)) dL_acts_413 ⟨rfl, Or.inl rfl⟩ rfl (hQ 1 w A H T hl.1 hT0 hn (fun a ha hb _ => hl.2 a ha hb))
theorem L_acts_132 {z : Nat} {g b a : Int} (hT : z_isTG sh 0) (hh : sh[a1]? = some (.inr (.inl (0, 8)))) (h161 : 161 ≤ a1) (hQ : z_aq w0 sh.length a1 er s sh Q) (hl : z_acx w0 a1 w A H T er s) (hT0 : T.1 = 0) (hn : z_nmi A) : z_Sem mLa (sh.length, z) 132 [(4, z_i g), (3, z_i b), (2, z_i a), (0, z_r 0), (1, z_r a1)] [] (sh, w) Q := by
  refine z_aload_n 3 dL_acts_132 rfl rfl ?_
  refine z_iload_n 2 dL_acts_133 rfl rfl ?_
  refine z_iload_n 1 dL_acts_134 rfl rfl ?_
  refine z_aload_n 4 dL_acts_135 rfl rfl ?_
  refine z_goE (rest := [z_i b, z_i a, z_r 0]) rfl ⟨z_lek rfl, z_lek rfl⟩ dL_acts_136 hh h161 rfl (z_lek rfl) hl (fun y1 w hy1 hl => ?_)
  refine z_iconst dL_acts_139 (by decide) ?_
  refine z_irem dL_acts_140 (by decide) ?_
  refine z_aload_n 4 dL_acts_141 rfl rfl ?_
  refine z_goE (rest := [z_i (y1.tmod 2), z_i b, z_i a, z_r 0]) rfl ⟨z_lek rfl, z_lek rfl⟩ dL_acts_142 hh h161 rfl (z_lek rfl) hl (fun y2 w hy2 hl => ?_)
  refine z_bipush dL_acts_145 (by decide) (by decide) ?_
  refine z_irem dL_acts_147 (by decide) ?_
  refine z_goV (As := [z_i a, z_i b, z_i (y1.tmod 2), z_i (y2.tmod 40)]) (rest := []) zmX8_tell znX8_tell zsX8_tell zlRL_106 ⟨z_lek rfl, z_lek rfl⟩ dL_acts_148 hT rfl rfl (z_ai (z_ai (z_ai (z_ai z_a0)))) (z_lek rfl) (z_lek rfl) ⟨rfl, rfl⟩ uc_tell hl (fun v w hl => ?_)
  show z_Sem mLa (sh.length, z) 151 [(4, z_i g), (3, z_i b), (2, z_i a), (0, z_r 0), (1, z_r a1)] [z_i v] (sh, w) Q
  refine z_istore (L' := [(5, z_i v), (4, z_i g), (3, z_i b), (2, z_i a), (0, z_r 0), (1, z_r a1)]) dL_acts_151 (z_ltk rfl) rfl ?_
  refine z_goto (tgt := 403) dL_acts_153 (by decide) ?_
  exact L_acts_403 hQ hl hT0 (z_kn_tell.nmi hn)
theorem L_acts_156 {z : Nat} {g b a : Int} (hT : z_isTG sh 0) (hh : sh[a1]? = some (.inr (.inl (0, 8)))) (h161 : 161 ≤ a1) (hQ : z_aq w0 sh.length a1 er s sh Q) (hl : z_acx w0 a1 w A H T er s) (hT0 : T.1 = 0) (hn : z_nmi A) : z_Sem mLa (sh.length, z) 156 [(4, z_i g), (3, z_i b), (2, z_i a), (0, z_r 0), (1, z_r a1)] [] (sh, w) Q := by
  refine z_aload_n 3 dL_acts_156 rfl rfl ?_
  refine z_iload 0 dL_acts_157 rfl ?_
  refine z_goV (As := [z_i g]) (rest := []) zmX8_drop znX8_drop zsX8_drop zlRL_110 ⟨z_lek rfl, z_lek rfl⟩ dL_acts_159 hT rfl rfl (z_ai z_a0) (z_lek rfl) (z_lek rfl) ⟨rfl, rfl⟩ uc_drop hl (fun v w hl => ?_)
  show z_Sem mLa (sh.length, z) 162 [(4, z_i g), (3, z_i b), (2, z_i a), (0, z_r 0), (1, z_r a1)] [z_i v] (sh, w) Q
  refine z_istore (L' := [(5, z_i v), (4, z_i g), (3, z_i b), (2, z_i a), (0, z_r 0), (1, z_r a1)]) dL_acts_162 (z_ltk rfl) rfl ?_
  refine z_goto (tgt := 403) dL_acts_164 (by decide) ?_
  exact L_acts_403 hQ hl hT0 (z_kn_drop.nmi hn)
theorem L_acts_167 {z : Nat} {g b a : Int} (hT : z_isTG sh 0) (hh : sh[a1]? = some (.inr (.inl (0, 8)))) (h161 : 161 ≤ a1) (hQ : z_aq w0 sh.length a1 er s sh Q) (hl : z_acx w0 a1 w A H T er s) (hT0 : T.1 = 0) (hn : z_nmi A) : z_Sem mLa (sh.length, z) 167 [(4, z_i g), (3, z_i b), (2, z_i a), (0, z_r 0), (1, z_r a1)] [] (sh, w) Q := by
  refine z_aload_n 3 dL_acts_167 rfl rfl ?_
  refine z_iload 0 dL_acts_168 rfl ?_
  refine z_aload_n 4 dL_acts_170 rfl rfl ?_
  refine z_goE (rest := [z_i g, z_r 0]) rfl ⟨z_lek rfl, z_lek rfl⟩ dL_acts_171 hh h161 rfl (z_lek rfl) hl (fun y1 w hy1 hl => ?_)
  refine z_bipush dL_acts_174 (by decide) (by decide) ?_
  refine z_irem dL_acts_176 (by decide) ?_
  refine z_goV (As := [z_i g, z_i (y1.tmod 40)]) (rest := []) zmX8_set znX8_set zsX8_set zlRL_113 ⟨z_lek rfl, z_lek rfl⟩ dL_acts_177 hT rfl rfl (z_ai (z_ai z_a0)) (z_lek rfl) (z_lek rfl) ⟨rfl, rfl⟩ uc_set hl (fun v w hl => ?_)
  show z_Sem mLa (sh.length, z) 180 [(4, z_i g), (3, z_i b), (2, z_i a), (0, z_r 0), (1, z_r a1)] [z_i v] (sh, w) Q
  refine z_istore (L' := [(5, z_i v), (4, z_i g), (3, z_i b), (2, z_i a), (0, z_r 0), (1, z_r a1)]) dL_acts_180 (z_ltk rfl) rfl ?_
  refine z_goto (tgt := 403) dL_acts_182 (by decide) ?_
  exact L_acts_403 hQ hl hT0 (z_kn_set.nmi hn)
theorem L_acts_185 {z : Nat} {g b a : Int} (hT : z_isTG sh 0) (hh : sh[a1]? = some (.inr (.inl (0, 8)))) (h161 : 161 ≤ a1) (hQ : z_aq w0 sh.length a1 er s sh Q) (hl : z_acx w0 a1 w A H T er s) (hT0 : T.1 = 0) (hn : z_nmi A) : z_Sem mLa (sh.length, z) 185 [(4, z_i g), (3, z_i b), (2, z_i a), (0, z_r 0), (1, z_r a1)] [] (sh, w) Q := by
  refine z_aload_n 3 dL_acts_185 rfl rfl ?_
  refine z_iload 0 dL_acts_186 rfl ?_
  refine z_goV (As := [z_i g]) (rest := []) zmX8_turn znX8_turn zsX8_turn zlRL_116 ⟨z_lek rfl, z_lek rfl⟩ dL_acts_188 hT rfl rfl (z_ai z_a0) (z_lek rfl) (z_lek rfl) ⟨rfl, rfl⟩ uc_turn hl (fun v w hl => ?_)
  show z_Sem mLa (sh.length, z) 191 [(4, z_i g), (3, z_i b), (2, z_i a), (0, z_r 0), (1, z_r a1)] [z_i v] (sh, w) Q
  refine z_istore (L' := [(5, z_i v), (4, z_i g), (3, z_i b), (2, z_i a), (0, z_r 0), (1, z_r a1)]) dL_acts_191 (z_ltk rfl) rfl ?_
  exact L_acts_193 hQ hl hT0 (z_kn_turn.nmi hn)
theorem L_acts_204 {z : Nat} {g b a : Int} (hT : z_isTG sh 0) (hh : sh[a1]? = some (.inr (.inl (0, 8)))) (h161 : 161 ≤ a1) (hQ : z_aq w0 sh.length a1 er s sh Q) (hl : z_acx w0 a1 w A H T er s) (hT0 : T.1 = 0) (hn : z_nmi A) : z_Sem mLa (sh.length, z) 204 [(4, z_i g), (3, z_i b), (2, z_i a), (0, z_r 0), (1, z_r a1)] [] (sh, w) Q := by
  refine z_aload_n 3 dL_acts_204 rfl rfl ?_
  refine z_iload_n 2 dL_acts_205 rfl rfl ?_
  refine z_aload_n 4 dL_acts_206 rfl rfl ?_
  refine z_goE (rest := [z_i a, z_r 0]) rfl ⟨z_lek rfl, z_lek rfl⟩ dL_acts_207 hh h161 rfl (z_lek rfl) hl (fun y1 w hy1 hl => ?_)
  refine z_bipush dL_acts_210 (by decide) (by decide) ?_
  refine z_irem dL_acts_212 (by decide) ?_
  refine z_goV (As := [z_i a, z_i (y1.tmod 40)]) (rest := []) zmX8_pin znX8_pin zsX8_pin zlRL_119 ⟨z_lek rfl, z_lek rfl⟩ dL_acts_213 hT rfl rfl (z_ai (z_ai z_a0)) (z_lek rfl) (z_lek rfl) ⟨rfl, rfl⟩ uc_pin hl (fun v w hl => ?_)
  show z_Sem mLa (sh.length, z) 216 [(4, z_i g), (3, z_i b), (2, z_i a), (0, z_r 0), (1, z_r a1)] [z_i v] (sh, w) Q
  refine z_istore (L' := [(5, z_i v), (4, z_i g), (3, z_i b), (2, z_i a), (0, z_r 0), (1, z_r a1)]) dL_acts_216 (z_ltk rfl) rfl ?_
  exact L_acts_218 hQ hl hT0 (z_kn_pin.nmi hn)
theorem L_acts_229 {z : Nat} {g b a : Int} (hT : z_isTG sh 0) (hh : sh[a1]? = some (.inr (.inl (0, 8)))) (h161 : 161 ≤ a1) (hQ : z_aq w0 sh.length a1 er s sh Q) (hl : z_acx w0 a1 w A H T er s) (hT0 : T.1 = 0) (hn : z_nmi A) : z_Sem mLa (sh.length, z) 229 [(4, z_i g), (3, z_i b), (2, z_i a), (0, z_r 0), (1, z_r a1)] [] (sh, w) Q := by
  refine z_aload_n 3 dL_acts_229 rfl rfl ?_
  refine z_iload_n 2 dL_acts_230 rfl rfl ?_
  refine z_goV (As := [z_i a]) (rest := []) zmX8_unpin znX8_unpin zsX8_unpin zlRL_122 ⟨z_lek rfl, z_lek rfl⟩ dL_acts_231 hT rfl rfl (z_ai z_a0) (z_lek rfl) (z_lek rfl) ⟨rfl, rfl⟩ uc_unpin hl (fun v w hl => ?_)
  show z_Sem mLa (sh.length, z) 234 [(4, z_i g), (3, z_i b), (2, z_i a), (0, z_r 0), (1, z_r a1)] [z_i v] (sh, w) Q
  refine z_istore (L' := [(5, z_i v), (4, z_i g), (3, z_i b), (2, z_i a), (0, z_r 0), (1, z_r a1)]) dL_acts_234 (z_ltk rfl) rfl ?_
  refine z_goto (tgt := 403) dL_acts_236 (by decide) ?_
  exact L_acts_403 hQ hl hT0 (z_kn_unpin.nmi hn)
theorem L_acts_239 {z : Nat} {g b a : Int} (hT : z_isTG sh 0) (hh : sh[a1]? = some (.inr (.inl (0, 8)))) (h161 : 161 ≤ a1) (hQ : z_aq w0 sh.length a1 er s sh Q) (hl : z_acx w0 a1 w A H T er s) (hT0 : T.1 = 0) (hn : z_nmi A) : z_Sem mLa (sh.length, z) 239 [(4, z_i g), (3, z_i b), (2, z_i a), (0, z_r 0), (1, z_r a1)] [] (sh, w) Q := by
  refine z_aload_n 3 dL_acts_239 rfl rfl ?_
  refine z_bipush dL_acts_240 (by decide) (by decide) ?_
  refine z_aload_n 4 dL_acts_242 rfl rfl ?_
  refine z_goE (rest := [z_i 30, z_r 0]) rfl ⟨z_lek rfl, z_lek rfl⟩ dL_acts_243 hh h161 rfl (z_lek rfl) hl (fun y1 w hy1 hl => ?_)
  refine z_bipush dL_acts_246 (by decide) (by decide) ?_
  refine z_irem dL_acts_248 (by decide) ?_
  refine z_iadd dL_acts_249 (by rw [z_tm hy1.1]; have := Int.emod_nonneg y1 (show (80 : Int) ≠ 0 by decide); have := Int.emod_lt_of_pos y1 (show (0 : Int) < 80 by decide); constructor <;> omega) ?_
  refine z_goV (As := [z_i (30 + (y1.tmod 80))]) (rest := []) zmX8_end znX8_end zsX8_end zlRL_125 ⟨z_lek rfl, z_lek rfl⟩ dL_acts_250 hT rfl rfl (z_ai z_a0) (z_lek rfl) (z_lek rfl) ⟨rfl, rfl⟩ uc_end hl (fun v w hl => ?_)
  show z_Sem mLa (sh.length, z) 253 [(4, z_i g), (3, z_i b), (2, z_i a), (0, z_r 0), (1, z_r a1)] [z_i v] (sh, w) Q
  refine z_istore (L' := [(5, z_i v), (4, z_i g), (3, z_i b), (2, z_i a), (0, z_r 0), (1, z_r a1)]) dL_acts_253 (z_ltk rfl) rfl ?_
  exact L_acts_255 hQ hl hT0 (z_kn_end.nmi hn)
theorem L_acts_266 {z : Nat} {g b a : Int} (hT : z_isTG sh 0) (hh : sh[a1]? = some (.inr (.inl (0, 8)))) (h161 : 161 ≤ a1) (hQ : z_aq w0 sh.length a1 er s sh Q) (hl : z_acx w0 a1 w A H T er s) (hT0 : T.1 = 0) (hn : z_nmi A) : z_Sem mLa (sh.length, z) 266 [(4, z_i g), (3, z_i b), (2, z_i a), (0, z_r 0), (1, z_r a1)] [] (sh, w) Q := by
  refine z_aload_n 3 dL_acts_266 rfl rfl ?_
  refine z_iload 0 dL_acts_267 rfl ?_
  refine z_goV (As := [z_i g]) (rest := []) zmX8_reverse znX8_reverse zsX8_reverse zlRL_128 ⟨z_lek rfl, z_lek rfl⟩ dL_acts_269 hT rfl rfl (z_ai z_a0) (z_lek rfl) (z_lek rfl) ⟨rfl, rfl⟩ uc_reverse hl (fun v w hl => ?_)
  show z_Sem mLa (sh.length, z) 272 [(4, z_i g), (3, z_i b), (2, z_i a), (0, z_r 0), (1, z_r a1)] [z_i v] (sh, w) Q
  refine z_istore (L' := [(5, z_i v), (4, z_i g), (3, z_i b), (2, z_i a), (0, z_r 0), (1, z_r a1)]) dL_acts_272 (z_ltk rfl) rfl ?_
  exact L_acts_274 hQ hl hT0 (z_kn_rev.nmi hn)
theorem L_acts_285 {z : Nat} {g b a : Int} (hT : z_isTG sh 0) (hh : sh[a1]? = some (.inr (.inl (0, 8)))) (h161 : 161 ≤ a1) (hQ : z_aq w0 sh.length a1 er s sh Q) (hl : z_acx w0 a1 w A H T er s) (hT0 : T.1 = 0) (hn : z_nmi A) : z_Sem mLa (sh.length, z) 285 [(4, z_i g), (3, z_i b), (2, z_i a), (0, z_r 0), (1, z_r a1)] [] (sh, w) Q := by
  refine z_aload_n 3 dL_acts_285 rfl rfl ?_
  refine z_goV (As := []) (rest := []) zmX8_tighten znX8_tighten zsX8_tighten zlRL_131 ⟨z_lek rfl, z_lek rfl⟩ dL_acts_286 hT rfl rfl z_a0 (z_lek rfl) (z_lek rfl) ⟨rfl, rfl⟩ uc_tighten hl (fun v w hl => ?_)
  show z_Sem mLa (sh.length, z) 289 [(4, z_i g), (3, z_i b), (2, z_i a), (0, z_r 0), (1, z_r a1)] [z_i v] (sh, w) Q
  refine z_istore (L' := [(5, z_i v), (4, z_i g), (3, z_i b), (2, z_i a), (0, z_r 0), (1, z_r a1)]) dL_acts_289 (z_ltk rfl) rfl ?_
  refine z_goto (tgt := 403) dL_acts_291 (by decide) ?_
  exact L_acts_403 hQ hl hT0 (z_kn_tight.nmi hn)
theorem L_acts_294 {z : Nat} {g b a : Int} (hT : z_isTG sh 0) (hh : sh[a1]? = some (.inr (.inl (0, 8)))) (h161 : 161 ≤ a1) (hQ : z_aq w0 sh.length a1 er s sh Q) (hl : z_acx w0 a1 w A H T er s) (hT0 : T.1 = 0) (hn : z_nmi A) : z_Sem mLa (sh.length, z) 294 [(4, z_i g), (3, z_i b), (2, z_i a), (0, z_r 0), (1, z_r a1)] [] (sh, w) Q := by
  refine z_aload_n 3 dL_acts_294 rfl rfl ?_
  refine z_goV (As := []) (rest := []) zmX8_thin znX8_thin zsX8_thin zlRL_134 ⟨z_lek rfl, z_lek rfl⟩ dL_acts_295 hT rfl rfl z_a0 (z_lek rfl) (z_lek rfl) ⟨rfl, rfl⟩ uc_thin hl (fun v w hl => ?_)
  show z_Sem mLa (sh.length, z) 298 [(4, z_i g), (3, z_i b), (2, z_i a), (0, z_r 0), (1, z_r a1)] [z_i v] (sh, w) Q
  refine z_istore (L' := [(5, z_i v), (4, z_i g), (3, z_i b), (2, z_i a), (0, z_r 0), (1, z_r a1)]) dL_acts_298 (z_ltk rfl) rfl ?_
  refine z_goto (tgt := 403) dL_acts_300 (by decide) ?_
  exact L_acts_403 hQ hl hT0 (z_kn_thin.nmi hn)
end ZACTS
