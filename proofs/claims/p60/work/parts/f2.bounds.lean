/-! BOUNDS AND WAYS: the check holds -/
section ZLAW2
variable {sh : List z_C} {w w0 : z_Mm} {Q : Option z_V → z_S → Prop} {A : z_A} {H : List z_A} {T : z_T} {er : Int} {s : Nat → Option z_A}
theorem z_qb_v {a b : Int} (ha : z_bl (A 1 0) a) (hb' : z_bl (A 1 0) b) : z_qb A a b = z_dd A (-1) a b := by rw [z_qb, if_pos ⟨ha, hb'⟩]
theorem z_dd_p (hA : z_okg A) (hb : z_bears A) {a b : Int} (ha : z_bl (A 1 0) a) (hb' : z_bl (A 1 0) b) : 0 ≤ z_dd A (-1) a b + z_dd A (-1) b a := by
  have h1 := z_Dtri (z_isd hA hb (-1)) ha ha hb'
  have h2 := z_D0 (z_isd hA hb (-1)) ha
  omega
theorem z_b2_t {p : Prop} (h : p) : z_b2 p = 1 := by rw [z_b2, if_pos h]
theorem z_b2_f {p : Prop} (h : ¬ p) : z_b2 p = 0 := by rw [z_b2, if_neg h]
theorem L_bounds_431 (hT : z_isTG sh 0) (hA : z_ok A) (hQ : ∀ w', z_LJ w0 w' A H T er s → Q (some (z_i 1)) (sh, w')) :
    ∀ (k i : Nat), i + k = (A 2 0).toNat → ∀ w, z_LJ w0 w A H T er s → z_Sem mL_bounds (sh.length, 0) 431 [(0, z_r 0), (1, z_i (A 1 0)), (2, z_i (z_ro A (A 1 0).toNat)), (3, z_i 1), (4, z_i (i : Int))] [] (sh, w) Q
  | k, i, hk, w, hl => by
    have hok := hA
    obtain ⟨hA, hb, -⟩ := hA
    have n0 := hA.2.1
    have m0 := hA.2.2.1
    refine t_L_bounds_431 hT (hl.go uc_value hT (fun w1 hl => ⟨fun hc => ?_, fun hc => ?_⟩))
    · refine hl.go uc_value hT (fun w2 hl => ⟨rfl, hl.goD uc_meanRoom hT (fun w3 hl => ⟨z_n64_div _ n0, z_dcc0 (z_n64_div _ n0), hl.goF uc_tightShare hT (fun w4 hl => hl.go uc_value hT (fun w5 hl => ⟨fun h3 => ⟨?_, hQ w5 hl⟩, fun h3 => hl.go uc_value hT (fun w6 hl => hl.go uc_value hT (fun w7 hl => ⟨?_, ?_, hQ w7 hl⟩))⟩))⟩)⟩)
      · have h3' : z_ct (z_onp A) (A 2 0).toNat = 0 := h3
        rw [z_tsv, if_pos h3']
        decide +kernel
      · have h3' : ¬ z_ct (z_onp A) (A 2 0).toNat = 0 := h3
        exact (z_tsn hA h3').1
      · have h3' : ¬ z_ct (z_onp A) (A 2 0).toNat = 0 := h3
        have c1 := z_ct_R (p := z_tg A) (A 2 0).toNat
        have c2 := z_ct_R (p := z_onp A) (A 2 0).toNat
        rw [z_tsv, if_neg h3']
        exact z_n24' ⟨by omega, by omega⟩ ⟨by omega, by omega⟩ h3'
    · have hc' : ¬ A 2 0 ≤ (i : Int) := hc
      match k, hk with
      | 0, hk => exact absurd (by omega) hc'
      | k + 1, hk =>
        have hg : z_bl (A 2 0) (i : Int) := ⟨by omega, by omega⟩
        obtain ⟨g3, g4, g34, g5, g6, g7⟩ := hA.2.2.2.1 i hg.1 hg.2
        have on : ¬ A 7 (i : Int) = 0 → z_dd A (-1) (z_gs A i).1 (z_gs A i).2.1 ≤ (z_gs A i).2.2.1 := fun c => by
          refine z_Dst (z_isd hA hb (-1)) (z_sv_A hA hb (-1)).2.1 (q := z_gs A i) ?_
          rw [z_Sx, List.mem_append, List.mem_append, z_S1_mem]
          exact Or.inl (Or.inl ⟨i, by omega, by rintro (c2 | c2); exact c c2; omega, rfl⟩)
        refine hl.go uc_gap hT (fun w2 hl => hl.go uc_gap hT (fun w3 hl y31 e31 => ⟨?_, hl.go uc_gap hT (fun w4 hl => ⟨?_, hl.go uc_gap hT (fun w5 hl => hl.go uc_gap hT (fun w6 hl => ⟨?_, ⟨by omega, by omega⟩, L_bounds_431 hT hok hQ k (i + 1) (by omega) w6 hl⟩))⟩)⟩))
        · rw [z_qg_7 hg]
          split
          · decide
          · rename_i c; have := on c; omega
        · rw [e31, z_qg_5 hg, z_qg_4 hg, z_qg_7 hg]
          by_cases c : A 7 (i : Int) = 0
          · rw [z_b2_f (fun q => q.1 c), c]
            rfl
          · rw [show A 7 (i : Int) = 1 by omega, if_neg (show ¬ (1 : Int) = 0 by decide), if_pos (rfl : (1 : Int) = 1), if_neg (show ¬ (1 : Int) = 0 by decide)]
            by_cases t : z_tg A i
            · rw [z_b2_t t, if_pos rfl, if_pos (by have := t.2; omega)]
            · rw [z_b2_f t, if_neg (show ¬ (0 : Int) = 1 by decide), if_neg (fun q => t ⟨c, by omega⟩)]
        · rw [z_qg_5 hg, z_qg_6 hg]
          by_cases t : z_need A i
          · rw [z_b2_t t, z_b2_t (z_need_tg hA hb hg.1 hg.2 t)]; decide
          · rw [z_b2_f t]
            unfold z_b2
            split <;> decide
theorem L_bounds_372 (hT : z_isTG sh 0) (hA : z_ok A) {a b : Nat} (ha : z_bl (A 1 0) a) (hb' : z_bl (A 1 0) b) {ro : Int} (next : ∀ w', z_LJ w0 w' A H T er s → z_Sem mL_bounds (sh.length, 0) 161 [(0, z_r 0), (1, z_i (A 1 0)), (2, z_i ro), (3, z_i 1), (4, z_i (a : Int)), (5, z_i ((b : Int) + 1))] [] (sh, w') Q) :
    ∀ (k i : Nat), i + k = (A 1 0).toNat → ∀ w, z_LJ w0 w A H T er s → z_Sem mL_bounds (sh.length, 0) 372 [(0, z_r 0), (1, z_i (A 1 0)), (2, z_i ro), (3, z_i 1), (4, z_i (a : Int)), (5, z_i (b : Int)), (6, z_i (z_dd A (-1) a b)), (7, z_i (i : Int))] [] (sh, w) Q
  | k, i, hk, w, hl => by
    obtain ⟨n0, r1, r2⟩ : (1 ≤ A 1 0 ∧ A 1 0 ≤ 10) ∧ True ∧ True := ⟨hA.1.2.1, True.intro, True.intro⟩
    refine t_L_bounds_372 hT ⟨fun hc => ⟨⟨by omega, by omega⟩, next w hl⟩, fun hc => ?_⟩
    match k, hk with
    | 0, hk => exact absurd (by omega) hc
    | k + 1, hk =>
      have hi : z_bl (A 1 0) (i : Int) := ⟨by omega, by omega⟩
      have q1 := z_dd_R (lo := -1) hA.1 hA.2.1 ha hi
      have q2 := z_dd_R (lo := -1) hA.1 hA.2.1 hi hb'
      have q3 := z_Dtri (z_isd hA.1 hA.2.1 (-1)) ha hb' hi
      refine hl.go uc_bound hT (fun w2 hl => hl.go uc_bound hT (fun w3 hl => ⟨?_, ?_, ⟨by omega, by omega⟩, L_bounds_372 hT hA ha hb' next k (i + 1) (by omega) w3 hl⟩))
      · rw [z_qb_v ha hi, z_qb_v hi hb']
        constructor <;> omega
      · rw [z_qb_v ha hi, z_qb_v hi hb']
        omega
theorem z_rel_b {a b : Int} (h : 0 ≤ z_dd A (-1) a b + z_dd A (-1) b a) : z_rel A b a = (if z_rel A a b = 0 then z_rel A a b else if z_rel A a b = 5 then z_rel A a b else if 3 ≤ z_rel A a b then 7 - z_rel A a b else 3 - z_rel A a b) ∧ 0 ≤ z_rel A a b ∧ z_rel A a b ≤ 5 := by
  unfold z_rel
  generalize z_dd A (-1) a b = p at h ⊢
  generalize z_dd A (-1) b a = q at h ⊢
  by_cases c0 : p = 0 ∧ q = 0
  · obtain ⟨rfl, rfl⟩ := c0
    decide
  · rw [if_neg c0, if_neg (fun c => c0 ⟨c.2, c.1⟩)]
    by_cases c1 : 0 ≤ q
    · rw [if_pos c1]
      by_cases c2 : 0 ≤ p
      · rw [if_pos c2, if_pos c2, if_pos c1]
        by_cases c3 : q = 0
        · rw [if_pos c3, if_pos c3, if_neg (fun c => c0 ⟨c, c3⟩)]; decide
        · rw [if_neg c3, if_neg c3]
          by_cases c4 : p = 0
          · rw [if_pos c4, if_pos c4]; decide
          · rw [if_neg c4, if_neg c4]; decide
      · rw [if_neg c2, if_neg c2, if_pos c1]; decide
    · have c2 : 0 ≤ p := by omega
      rw [if_neg c1, if_pos c2, if_neg c1]; decide
theorem L_bounds_228 (hT : z_isTG sh 0) (hA : z_ok A) {a b : Nat} (ha : z_bl (A 1 0) a) (hb' : z_bl (A 1 0) b) (hab : ¬ (a : Int) = (b : Int)) {ro : Int} (next : ∀ w', z_LJ w0 w' A H T er s → z_Sem mL_bounds (sh.length, 0) 161 [(0, z_r 0), (1, z_i (A 1 0)), (2, z_i ro), (3, z_i 1), (4, z_i (a : Int)), (5, z_i ((b : Int) + 1))] [] (sh, w') Q) :
    ∀ (k i : Nat), i + k = (z_cn A a b).toNat → ∀ w, z_LJ w0 w A H T er s → z_Sem mL_bounds (sh.length, 0) 228 [(0, z_r 0), (1, z_i (A 1 0)), (2, z_i ro), (4, z_i (a : Int)), (5, z_i (b : Int)), (6, z_i (z_dd A (-1) a b)), (7, z_i (z_dd A (-1) a b - z_dd A (-1) (z_nd A b a i) b)), (8, z_i (z_cn A a b)), (9, z_i (i : Int))] [] (sh, w) Q
  | k, i, hk, w, hl => by
    have hok := hA
    obtain ⟨hA, hb, -⟩ := hA
    have n0 := hA.2.1
    have hcn := z_cn_R hA hb ha hb'
    have hik : (i : Int) ≤ z_cn A a b := by omega
    obtain ⟨hnd, hcd⟩ := z_nd_ok hA hb ha hb' i hik
    have q1 := z_dd_R (lo := -1) hA hb ha hb'
    have q2 := z_dd_R (lo := -1) hA hb hb' ha
    have q3 := z_dd_R (lo := -1) hA hb hnd hb'
    have q4 := z_dd_p hA hb ha hb'
    have h3 : (0 ≤ (a : Int) ∧ (a : Int) < A 1 0) ∧ (0 ≤ (b : Int) ∧ (b : Int) < A 1 0) ∧ (a : Int) ≠ (b : Int) := ⟨ha, hb', hab⟩
    have h3' : (0 ≤ (b : Int) ∧ (b : Int) < A 1 0) ∧ (0 ≤ (a : Int) ∧ (a : Int) < A 1 0) ∧ (b : Int) ≠ (a : Int) := ⟨hb', ha, fun c => hab c.symm⟩
    refine t_L_bounds_228 hT ⟨fun hc => ?_, fun hc => ?_⟩
    · have hi : z_nd A b a i = b := (z_cn_0 hA hb hnd hb').mp (by omega)
      have hr := z_rel_b (A := A) q4
      refine hl.go uc_relation hT (fun w2 hl => hl.go uc_relation hT (fun w3 hl => ⟨?_, hl.go uc_way hT (fun w4 hl => ⟨?_, hl.go uc_play hT (fun w5 hl => hl.go uc_bound hT (fun w6 hl => ⟨?_, ?_, fun _ => ⟨fun _ => ⟨fun _ => ⟨?_, True.intro⟩, fun _ => ⟨?_, True.intro⟩, True.intro⟩, True.intro⟩, ?_, L_bounds_372 hT hok ha hb' next (A 1 0).toNat 0 (by omega) w6 hl⟩))⟩)⟩))
      · rw [hi]
        have := z_D0 (z_isd hA hb (-1)) hb'
        omega
      · rw [z_qwy, if_pos h3, if_pos (by omega), z_wy, if_neg (by omega)]
      · rw [z_qb_v hb' ha]
        constructor <;> omega
      · rw [z_qb_v hb' ha, z_qp, if_pos h3]
      · rw [z_qr, if_pos h3]
        constructor <;> omega
      · rw [z_qr, if_pos h3]
        constructor <;> omega
      · rw [z_qr, if_pos h3', z_qr, if_pos h3]
        exact hr.1
    · match k, hk with
      | 0, hk => exact absurd (by omega) hc
      | k + 1, hk =>
        have hne : z_nd A b a i ≠ b := fun c => by
          have := (z_cn_0 hA hb hnd hb').mpr c
          omega
        obtain ⟨-, hq, h1, -, h5, h6, h7⟩ := z_nx_ok hA hb hnd hb' hne
        have q5 := z_dd_R (lo := -1) hA hb h5 hb'
        refine hl.go uc_way hT (fun w2 hl => ?_)
        rw [z_qwy, if_pos h3, if_pos (by omega), z_wy, if_pos (by omega), show ((i : Int)).toNat = i by omega]
        refine hl.go (uL_lengthOf hA (List.mem_of_getElem? hq)) hT (fun w3 hl => ⟨?_, ⟨by omega, by omega⟩, ?_⟩)
        · constructor <;> omega
        · have := L_bounds_228 hT hok ha hb' hab next k (i + 1) (by omega) w3 hl
          rw [show z_dd A (-1) a b - z_dd A (-1) (z_nd A b a (i + 1)) b = z_dd A (-1) a b - z_dd A (-1) (z_nd A b a i) b + (z_nxt A b (z_nd A b a i)).2.2.1 by rw [show z_nd A b a (i + 1) = (z_nxt A b (z_nd A b a i)).2.1 from rfl]; omega] at this
          exact this
theorem L_bounds_161 (hT : z_isTG sh 0) (hA : z_ok A) {a : Nat} (ha : z_bl (A 1 0) a) {ro : Int} (next : ∀ w', z_LJ w0 w' A H T er s → z_Sem mL_bounds (sh.length, 0) 33 [(0, z_r 0), (1, z_i (A 1 0)), (2, z_i ro), (3, z_i 1), (4, z_i ((a : Int) + 1))] [] (sh, w') Q) :
    ∀ (k i : Nat), i + k = (A 1 0).toNat → ∀ w, z_LJ w0 w A H T er s → z_Sem mL_bounds (sh.length, 0) 161 [(0, z_r 0), (1, z_i (A 1 0)), (2, z_i ro), (3, z_i 1), (4, z_i (a : Int)), (5, z_i (i : Int))] [] (sh, w) Q
  | k, i, hk, w, hl => by
    have n0 := hA.1.2.1
    refine t_L_bounds_161 hT ⟨fun hc => ⟨⟨by omega, by omega⟩, next w hl⟩, fun hc => ?_⟩
    match k, hk with
    | 0, hk => exact absurd (by omega) hc
    | k + 1, hk =>
      have hi : z_bl (A 1 0) (i : Int) := ⟨by omega, by omega⟩
      have q1 := z_dd_R (lo := -1) hA.1 hA.2.1 ha hi
      have q2 := z_dd_R (lo := -1) hA.1 hA.2.1 hi ha
      have q4 := z_dd_p hA.1 hA.2.1 ha hi
      have nx : ∀ w', z_LJ w0 w' A H T er s → z_Sem mL_bounds (sh.length, 0) 161 [(0, z_r 0), (1, z_i (A 1 0)), (2, z_i ro), (3, z_i 1), (4, z_i (a : Int)), (5, z_i ((i : Int) + 1))] [] (sh, w') Q := fun w' hl => L_bounds_161 hT hA ha next k (i + 1) (by omega) w' hl
      refine hl.go uc_bound hT (fun w2 hl => hl.go uc_bound hT (fun w3 hl => ?_))
      rw [z_qb_v ha hi, z_qb_v hi ha]
      refine ⟨⟨by omega, by omega⟩, by omega, fun c => ?_, fun c => hl.go uc_wayLength hT (fun w4 hl => ?_)⟩
      · exact L_bounds_372 hT hA ha hi nx (A 1 0).toNat 0 (by omega) w3 hl
      · rw [z_qwl, if_pos ⟨ha, hi, c⟩]
        have := L_bounds_228 hT hA ha hi c nx (z_cn A a i).toNat 0 (by omega) w4 hl
        rw [show z_dd A (-1) a i - z_dd A (-1) (z_nd A i a 0) i = 0 by show z_dd A (-1) a i - z_dd A (-1) a i = 0; omega] at this
        exact this
theorem L_bounds_33 (hT : z_isTG sh 0) (hA : z_ok A) (hQ : ∀ w', z_LJ w0 w' A H T er s → Q (some (z_i 1)) (sh, w')) :
    ∀ (k i : Nat), i + k = (A 1 0).toNat → ∀ w, z_LJ w0 w A H T er s → z_Sem mL_bounds (sh.length, 0) 33 [(0, z_r 0), (1, z_i (A 1 0)), (2, z_i (z_ro A i)), (3, z_i 1), (4, z_i (i : Int))] [] (sh, w) Q
  | k, i, hk, w, hl => by
    have n0 := hA.1.2.1
    refine t_L_bounds_33 hT ⟨fun hc => ?_, fun hc => ?_⟩
    · have : i = (A 1 0).toNat := by omega
      subst this
      exact L_bounds_431 hT hA hQ (A 2 0).toNat 0 (by omega) w hl
    · match k, hk with
      | 0, hk => exact absurd (by omega) hc
      | k + 1, hk =>
        have hi : z_bl (A 1 0) (i : Int) := ⟨by omega, by omega⟩
        have h0 : z_bl (A 1 0) 0 := ⟨Int.le_refl _, by omega⟩
        have q1 := z_el_R hA.1 hA.2.1 hi
        have q2 := z_ro_R hA.1 hA.2.1 i (by omega)
        refine hl.go uc_event hT (fun w2 hl => hl.go uc_event hT (fun w3 hl => ?_))
        rw [z_qe_0 hi, z_qe_1 hi]
        refine ⟨⟨by omega, by omega⟩, ⟨by omega, by omega⟩, hl.go uc_event hT (fun w4 hl => hl.go uc_event hT (fun w5 hl => ⟨?_, hl.go uc_event hT (fun w6 hl => hl.go uc_event hT (fun w7 hl => hl.go uc_event hT (fun w8 hl => ?_)))⟩))⟩
        · rw [z_qe_0 hi, z_qe_1 hi]; omega
        · rw [z_qe_0 hi, z_qe_1 hi, z_qe_2 hi]
          refine ⟨⟨by omega, by omega⟩, ⟨by omega, by omega⟩, by omega, hl.go uc_bound hT (fun w9 hl => ⟨?_, hl.go uc_event hT (fun w10 hl => ?_)⟩)⟩
          · rw [z_qb_v hi hi]; exact z_D0 (z_isd hA.1 hA.2.1 (-1)) hi
          · rw [z_qe_1 hi]
            refine ⟨⟨by omega, by omega⟩, hl.go uc_can hT (fun w11 hl => ⟨?_, hl.go uc_event hT (fun w12 hl => ?_)⟩)⟩
            · rw [z_qc, if_pos hi, if_neg (by omega)]
            · rw [z_qe_0 hi]
              refine ⟨⟨by omega, by omega⟩, hl.go uc_can hT (fun w13 hl => ⟨?_, ?_⟩)⟩
              · rw [z_qc, if_pos hi, if_neg (by omega)]
              · have := L_bounds_161 (ro := z_ro A (i + 1)) hT hA hi (fun w' hl => L_bounds_33 hT hA hQ k (i + 1) (by omega) w' hl) (A 1 0).toNat 0 (by omega) w13 hl
                rw [show z_ro A (i + 1) = z_ro A i + (z_dd A (-1) 0 i - - z_dd A (-1) i 0) by show z_ro A i + (z_dd A (-1) 0 i + z_dd A (-1) i 0) = _; omega] at this
                exact this
theorem uL_bounds (hA : z_ok A) : z_uc mL_bounds [z_r 0] A H T er s 1 A H T er s := fun sh w K hT h k =>
  z_CIi (t_L_bounds hT ((z_LJ.rf h).go uc_value hT (fun w1 hl => hl.go (uL_bear hA ⟨by decide, by decide⟩) hT (fun w2 hl => ⟨by decide, hl.go (uL_bear hA ⟨by decide, by decide⟩) hT (fun w3 hl => ⟨by decide, L_bounds_33 hT hA (fun w' hl => ⟨_, _, rfl, rfl, k w' hl.1 hl.2⟩) (A 1 0).toNat 0 (by omega) w3 hl⟩)⟩))))
end ZLAW2
