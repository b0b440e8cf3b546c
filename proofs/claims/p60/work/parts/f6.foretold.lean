/-! WHAT IS TOLD AHEAD OF OTHER ACTS: the check holds -/
section ZLAW6
variable {sh : List z_C} {w w0 : z_Mm} {Q : Option z_V → z_S → Prop} {A B C : z_A} {H G : List z_A} {T : z_T} {er : Int} {s : Nat → Option z_A} {a1 a2 a3 : Nat}
theorem L_fore_612 (hT : z_isTG sh 0) (hr : z_rws3 sh a1 a2 a3) (hA : z_ok A) (hQ : z_yes a2 A T er s sh Q) :
    ∀ (k i : Nat), i + k = (A 1 0).toNat → ∀ w, z_LX a2 (z_tl A) w A H T er s → z_Sem mL_foretold (sh.length, 0) 612 [(0, z_r 0), (5, z_i 1), (18, z_i (if i = 0 then -1 else z_tme A 1 (z_qo A 1 ((i : Int) - 1)))), (19, z_i (i : Int))] [] (sh, w) Q
  | k, i, hk, w, hl => by
    have hr' := hr
    obtain ⟨⟨r1, r2, r3⟩, ⟨r12, r23⟩, q1, q2, q3⟩ := hr
    have n0 := hA.1.2.1
    refine t_L_foretold_612 hT q1 q2 q3 (hl.go (uc_value.as (v' := A 1 0) rfl) hT r2 (fun w1 hl => ⟨fun hc => ?_, fun hc => ?_⟩))
    · refine hl.go (uc_value.as (v' := z_ge A (A 1 0).toNat) rfl) hT r2 (fun w2 hl => ⟨?_, hl.go (uc_value.as (v' := A 1 0) rfl) hT r2 (fun w3 hl => hl.go (uc_ordered.as (z_qo_n (by omega))) hT r2 (fun w4 hl => ⟨rfl, hQ w4 H hl⟩))⟩)
      rw [if_neg (by omega), show (i : Int) - 1 = A 1 0 - 1 by omega]
      exact z_ge_qo hA
    · match k, hk with
      | 0, hk => exact absurd (by omega) hc
      | k + 1, hk =>
        have hi : z_bl (A 1 0) (i : Int) := ⟨by omega, by omega⟩
        obtain ⟨a1', a2'⟩ := z_qo_at (A := A) (how := 1) hi
        have e1 : z_qe A (z_qo A 1 i) 0 = z_tme A 1 (z_qo A 1 i) := by rw [z_qe_0 a1', z_tme, if_neg (by decide)]
        have el := z_el_R hA.1 hA.2.1 a1'
        have hte : z_tme A 1 (z_qo A 1 i) = - z_dd A (-1) (z_qo A 1 i) 0 := by rw [z_tme, if_neg (by decide)]
        have hfr := z_frs_R (A := A) (A 1 0).toNat
        have hfb : z_bl (A 1 0) (z_frs A (A 1 0).toNat) := ⟨hfr.1, by omega⟩
        have hmx := z_frs_mx (A := A) (A 1 0).toNat i hi.1 (by omega)
        have nx : ∀ w, z_LX a2 (z_tl A) w A H T er s → z_Sem mL_foretold (sh.length, 0) 694 [(0, z_r 0), (19, z_i (i : Int))] [] (sh, w) Q := fun w hl => by
          refine t_L_foretold_694 hT q1 q2 q3 (hl.go uc_ordered hT r2 (fun w1 hl => hl.go (uc_event.as e1) hT r2 (fun w2 hl => ⟨⟨by omega, by omega⟩, ?_⟩)))
          have := L_fore_612 hT hr' hA hQ k (i + 1) (by omega) w2 hl
          rw [if_neg (by omega), show ((i + 1 : Nat) : Int) - 1 = i by omega] at this
          exact this
        refine hl.go uc_ordered hT r2 (fun w2 hl => hl.go (uc_event.as e1) hT r2 (fun w3 hl => ⟨?_, hl.go uc_freest hT r2 (fun w4 hl => hl.go (uc_event.as (z_qe_2 hfb)) hT r2 (fun w5 hl => hl.go (uc_event.as (z_qe_2 hi)) hT r2 (fun w6 hl => ⟨?_, fun _ => nx w6 hl, fun h0 => ?_⟩)))⟩))
        · by_cases c : i = 0
          · rw [if_pos c]; omega
          · rw [if_neg c]
            have := z_qo_mo (A := A) (how := 1) (i := (i : Int) - 1) (j := i) ⟨by omega, by omega⟩ hi (by omega)
            omega
        · unfold z_rmo at hmx
          omega
        · have hj : z_bl (A 1 0) ((i : Int) - 1) := ⟨by omega, by omega⟩
          obtain ⟨b1', b2'⟩ := z_qo_at (A := A) (how := 0) hi
          obtain ⟨c1', c2'⟩ := z_qo_at (A := A) (how := 0) hj
          have hmo := z_qo_mo (A := A) (how := 0) hj hi (by omega)
          refine hl.go uc_lastly hT r2 (fun w7 hl => hl.go (uc_event.as (z_qe_1 b1')) hT r2 (fun w8 hl => ⟨⟨by omega, by omega⟩, hl.go uc_lastly hT r2 (fun w9 hl => hl.go (uc_event.as (z_qe_1 c1')) hT r2 (fun w10 hl => ⟨?_, nx w10 hl⟩))⟩))
          rw [z_tme, z_tme, if_pos rfl, if_pos rfl] at hmo
          omega
theorem L_fore_588 (hT : z_isTG sh 0) (hr : z_rws3 sh a1 a2 a3) (hA : z_ok A) (hQ : z_yes a2 A T er s sh Q) (hl : z_LX a2 (z_tl A) w A H T er s) : z_Sem mL_foretold (sh.length, 0) 588 [(0, z_r 0), (2, z_r a2), (3, z_r a3), (4, z_i ((z_tl A).length : Int))] [] (sh, w) Q := by
  have hr' := hr
  obtain ⟨⟨r1, r2, r3⟩, ⟨r12, r23⟩, q1, q2, q3⟩ := hr
  have n0 := hA.1.2.1
  exact t_L_foretold_588 hT q1 q2 q3 (hl.isAs hT q2 q3 r2 r3 r23 (fun w' hl => ⟨by decide, L_fore_612 hT hr' hA hQ (A 1 0).toNat 0 (by omega) w' hl⟩))
/-- the other sum -/
theorem L_fore_480 {s13 x14 x15 acc : Int} {i : Nat} (hT : z_isTG sh 0) (hr : z_rws3 sh a1 a2 a3) (hC : z_ok C) (h1 : C 1 0 = A 1 0) (hd : ∀ a b, z_bl (A 1 0) a → z_bl (A 1 0) b → z_dd C (-1) a b = z_dd A (-1) a b) (hi : z_bl (A 1 0) (i : Int))
    (next : ∀ w, z_LX a2 (z_tl A) w C G T er s → z_Sem mL_foretold (sh.length, 0) 467 [(0, z_r 0), (2, z_r a2), (3, z_r a3), (4, z_i ((z_tl A).length : Int)), (5, z_i 1), (13, z_i s13), (14, z_i x14), (15, z_i x15), (16, z_i (-2)), (17, z_i (z_hi A i acc (A 1 0).toNat)), (18, z_i ((i : Int) + 1))] [] (sh, w) Q) :
    ∀ (k j : Nat), j + k = (A 1 0).toNat → ∀ w, z_LX a2 (z_tl A) w C G T er s → z_Sem mL_foretold (sh.length, 0) 480 [(0, z_r 0), (2, z_r a2), (3, z_r a3), (4, z_i ((z_tl A).length : Int)), (5, z_i 1), (13, z_i s13), (14, z_i x14), (15, z_i x15), (16, z_i (-2)), (17, z_i (z_hi A i acc j)), (18, z_i (i : Int)), (19, z_i (j : Int))] [] (sh, w) Q
  | k, j, hk, w, hl => by
    have hr' := hr
    obtain ⟨⟨r1, r2, r3⟩, ⟨r12, r23⟩, q1, q2, q3⟩ := hr
    have n0 := hC.1.2.1
    rw [h1] at n0
    refine t_L_foretold_480 hT q1 q2 q3 (hl.go (uc_value.as (v' := A 1 0) h1) hT r2 (fun w1 hl => ⟨fun hc => ⟨⟨by have := hi.2; omega, by have := hi.2; omega⟩, ?_⟩, fun hc => ?_⟩))
    · have : j = (A 1 0).toNat := by omega
      subst this
      exact next w1 hl
    · match k, hk with
      | 0, hk => exact absurd (by omega) hc
      | k + 1, hk =>
        have hj : z_bl (A 1 0) (j : Int) := ⟨by omega, by omega⟩
        refine hl.go (uc_bound.as (v' := z_dd A (-1) i j) (by rw [z_qb_v (by rw [h1]; exact hi) (by rw [h1]; exact hj), hd _ _ hi hj])) hT r2 (fun w2 hl y7 e7 => ⟨⟨by omega, by omega⟩, ?_⟩)
        rw [e7]
        exact L_fore_480 hT hr' hC h1 hd hi next k (j + 1) (by omega) w2 hl
theorem L_fore_467 {x14 x15 : Int} (hT : z_isTG sh 0) (hr : z_rws3 sh a1 a2 a3) (hC : z_ok C) (h1 : C 1 0 = A 1 0) (hd : ∀ a b, z_bl (A 1 0) a → z_bl (A 1 0) b → z_dd C (-1) a b = z_dd A (-1) a b) (hfn : z_fn C = -2) (hx : (if 0 ≤ x14 then (0 : Int) else 1) = (if x15 = -2 then (1 : Int) else 0))
    (next : ∀ w, z_LX a2 (z_tl A) w C G T er s → z_Sem mL_foretold (sh.length, 0) 576 [(0, z_r 0), (2, z_r a2), (3, z_r a3), (4, z_i ((z_tl A).length : Int)), (15, z_i x15)] [] (sh, w) Q) :
    ∀ (k i : Nat), i + k = (A 1 0).toNat → ∀ w, z_LX a2 (z_tl A) w C G T er s → z_Sem mL_foretold (sh.length, 0) 467 [(0, z_r 0), (2, z_r a2), (3, z_r a3), (4, z_i ((z_tl A).length : Int)), (5, z_i 1), (13, z_i (z_ho A (A 1 0).toNat (A 1 0).toNat)), (14, z_i x14), (15, z_i x15), (16, z_i (-2)), (17, z_i (z_ho A (A 1 0).toNat i)), (18, z_i (i : Int))] [] (sh, w) Q
  | k, i, hk, w, hl => by
    have hr' := hr
    obtain ⟨⟨r1, r2, r3⟩, ⟨r12, r23⟩, q1, q2, q3⟩ := hr
    have n0 := hC.1.2.1
    rw [h1] at n0
    refine t_L_foretold_467 hT q1 q2 q3 (hl.go (uc_value.as (v' := A 1 0) h1) hT r2 (fun w1 hl => ⟨fun hc => ?_, fun hc => ?_⟩))
    · have : i = (A 1 0).toNat := by omega
      subst this
      exact ⟨rfl, hx, hl.go (uc_needless.as hfn) hT r2 (fun w2 hl => ⟨rfl, fun _ => next w2 hl, fun c => absurd (by decide) c⟩)⟩
    · match k, hk with
      | 0, hk => exact absurd (by omega) hc
      | k + 1, hk =>
        exact L_fore_480 (i := i) (acc := z_ho A (A 1 0).toNat i) hT hr' hC h1 hd ⟨by omega, by omega⟩ (fun w hl => L_fore_467 hT hr' hC h1 hd hfn hx next k (i + 1) (by omega) w hl) (A 1 0).toNat 0 (by omega) w1 hl
theorem L_fore_405 {acc : Int} {i : Nat} (hT : z_isTG sh 0) (hr : z_rws3 sh a1 a2 a3) (hA : z_ok A) (hi : z_bl (A 1 0) (i : Int))
    (next : ∀ w, z_LX a2 (z_tl A) w A H T er s → z_Sem mL_foretold (sh.length, 0) 392 [(0, z_r 0), (2, z_r a2), (3, z_r a3), (4, z_i ((z_tl A).length : Int)), (5, z_i 1), (13, z_i (z_hi A i acc (A 1 0).toNat)), (14, z_i ((i : Int) + 1))] [] (sh, w) Q) :
    ∀ (k j : Nat), j + k = (A 1 0).toNat → ∀ w, z_LX a2 (z_tl A) w A H T er s → z_Sem mL_foretold (sh.length, 0) 405 [(0, z_r 0), (2, z_r a2), (3, z_r a3), (4, z_i ((z_tl A).length : Int)), (5, z_i 1), (13, z_i (z_hi A i acc j)), (14, z_i (i : Int)), (15, z_i (j : Int))] [] (sh, w) Q
  | k, j, hk, w, hl => by
    have hr' := hr
    obtain ⟨⟨r1, r2, r3⟩, ⟨r12, r23⟩, q1, q2, q3⟩ := hr
    have n0 := hA.1.2.1
    refine t_L_foretold_405 hT q1 q2 q3 (hl.go (uc_value.as (v' := A 1 0) rfl) hT r2 (fun w1 hl => ⟨fun hc => ⟨⟨by have := hi.2; omega, by have := hi.2; omega⟩, ?_⟩, fun hc => ?_⟩))
    · have : j = (A 1 0).toNat := by omega
      subst this
      exact next w1 hl
    · match k, hk with
      | 0, hk => exact absurd (by omega) hc
      | k + 1, hk =>
        have hj : z_bl (A 1 0) (j : Int) := ⟨by omega, by omega⟩
        refine hl.go (uc_bound.as (z_qb_v hi hj)) hT r2 (fun w2 hl y7 e7 => ⟨⟨by omega, by omega⟩, ?_⟩)
        rw [e7]
        exact L_fore_405 hT hr' hA hi next k (j + 1) (by omega) w2 hl
theorem L_fore_392 (hT : z_isTG sh 0) (hr : z_rws3 sh a1 a2 a3) (hA : z_ok A) (hQ : z_yes a2 A T er s sh Q) :
    ∀ (k i : Nat), i + k = (A 1 0).toNat → ∀ w, z_LX a2 (z_tl A) w A H T er s → z_Sem mL_foretold (sh.length, 0) 392 [(0, z_r 0), (2, z_r a2), (3, z_r a3), (4, z_i ((z_tl A).length : Int)), (5, z_i 1), (13, z_i (z_ho A (A 1 0).toNat i)), (14, z_i (i : Int))] [] (sh, w) Q
  | k, i, hk, w, hl => by
    have hr' := hr
    obtain ⟨⟨r1, r2, r3⟩, ⟨r12, r23⟩, q1, q2, q3⟩ := hr
    have n0 := hA.1.2.1
    have hA20 := hA.1.2.2.1
    refine t_L_foretold_392 hT q1 q2 q3 (hl.go (uc_value.as (v' := A 1 0) rfl) hT r2 (fun w1 hl => ⟨fun hc => ?_, fun hc => ?_⟩))
    · have : i = (A 1 0).toNat := by omega
      subst this
      have hfi := z_fn_is (A := A)
      refine hl.go uc_needless hT r2 (fun w2 hl => ?_)
      by_cases c : z_fn A = -2
      · have hu : z_uc mX8_thin [z_r 0] A H T er s (-2) A H T er s := by
          have := uc_thin (A := A) (H := H) (T := T) (er := er) (s := s)
          rw [z_dthin, if_pos c] at this
          exact this
        have hu2 : z_uc mX8_tighten [z_r 0] A H T er s (-2) A H T er s := by
          have := uc_tighten (A := A) (H := H) (T := T) (er := er) (s := s)
          rw [z_dtight_0 hA c] at this
          exact this
        refine hl.go hu hT r2 (fun w3 hl => hl.go hu2 hT r2 (fun w4 hl => ?_))
        refine L_fore_467 hT hr' hA rfl (fun _ _ _ _ => rfl) c (by rw [c]; decide) (fun w hl => t_L_foretold_576 hT q1 q2 q3 ⟨fun _ => L_fore_588 hT hr' hA hQ hl, fun c => absurd (by decide) c⟩) (A 1 0).toNat 0 (by omega) w4 hl
      · obtain ⟨g0, g1, g2, g3⟩ := z_fnl_in hfi c
        obtain ⟨h1, h2, h3, h4, h5, h6⟩ := z_thinN_ok 24 A hA.1 hA.2.1
        have hu : z_uc mX8_thin [z_r 0] A H T er s (A 2 0 - z_thinN 24 A 2 0) (z_note (z_thinN 24 A) 12 (A 2 0 - z_thinN 24 A 2 0) (z_thinN 24 A 2 0)) (z_push H A) T er s := by
          have := uc_thin (A := A) (H := H) (T := T) (er := er) (s := s)
          rw [z_dthin, if_neg c] at this
          exact this
        refine hl.go hu hT r2 (fun w3 hl => ?_)
        have hC := hl.1.1.1
        have e1 : z_note (z_thinN 24 A) 12 (A 2 0 - z_thinN 24 A 2 0) (z_thinN 24 A 2 0) 1 0 = A 1 0 := h3
        have hfn : z_fn (z_note (z_thinN 24 A) 12 (A 2 0 - z_thinN 24 A 2 0) (z_thinN 24 A 2 0)) = -2 := z_fn_note (h6 (by omega))
        have hu2 : z_uc mX8_tighten [z_r 0] (z_note (z_thinN 24 A) 12 (A 2 0 - z_thinN 24 A 2 0) (z_thinN 24 A 2 0)) (z_push H A) T er s (-2) (z_note (z_thinN 24 A) 12 (A 2 0 - z_thinN 24 A 2 0) (z_thinN 24 A 2 0)) (z_push H A) T er s := by
          have := uc_tighten (A := z_note (z_thinN 24 A) 12 (A 2 0 - z_thinN 24 A 2 0) (z_thinN 24 A 2 0)) (H := z_push H A) (T := T) (er := er) (s := s)
          rw [z_dtight_0 hC hfn] at this
          exact this
        refine hl.go hu2 hT r2 (fun w4 hl => ?_)
        refine L_fore_467 hT hr' hC e1 (fun a b ha hb => z_dd_same hA hC e1 (fun x => by rw [z_note_F, h5]) ha hb) hfn (by rw [if_pos g0, if_neg (by omega)]) (fun w hl => t_L_foretold_576 hT q1 q2 q3 ⟨fun c => absurd c (by omega), fun _ => hl.undo hT r2 (fun v H1 w' v0 hl => ⟨by omega, L_fore_588 hT hr' hA hQ hl⟩)⟩) (A 1 0).toNat 0 (by omega) w4 hl
    · match k, hk with
      | 0, hk => exact absurd (by omega) hc
      | k + 1, hk =>
        exact L_fore_405 (i := i) (acc := z_ho A (A 1 0).toNat i) hT hr' hA ⟨by omega, by omega⟩ (fun w hl => L_fore_392 hT hr' hA hQ k (i + 1) (by omega) w hl) (A 1 0).toNat 0 (by omega) w1 hl
theorem L_fore_211 (hT : z_isTG sh 0) (hr : z_rws3 sh a1 a2 a3) (hA : z_ok A) (hQ : z_yes a2 A T er s sh Q) (hl : z_LX a2 (z_tl A) w A H T er s) : z_Sem mL_foretold (sh.length, 0) 211 [(0, z_r 0), (1, z_r a1), (2, z_r a2), (3, z_r a3), (4, z_i ((z_tl A).length : Int))] [] (sh, w) Q := by
  have hr' := hr
  obtain ⟨⟨r1, r2, r3⟩, ⟨r12, r23⟩, q1, q2, q3⟩ := hr
  have n0 := hA.1.2.1
  have hA20 := hA.1.2.2.1
  have n386 : ∀ w G, z_LX a2 (z_tl A) w A G T er s → z_Sem mL_foretold (sh.length, 0) 386 [(0, z_r 0), (2, z_r a2), (3, z_r a3), (4, z_i ((z_tl A).length : Int)), (5, z_i 1)] [] (sh, w) Q := fun w G hl => t_L_foretold_386 hT q1 q2 q3 (L_fore_392 hT hr' hA hQ (A 1 0).toNat 0 (by omega) w hl)
  refine t_L_foretold_211 hT q1 q2 q3 (hl.isAs hT q2 q3 r2 r3 r23 (fun w1 hl => ⟨by decide, hl.go (uc_value.as (v' := A 2 0) rfl) hT r2 (fun w2 hl => ⟨fun _ => n386 w2 H hl, fun h0 => hl.draw q1 r1 r12 (fun y w3 hy hl => hl.go (uc_value.as (v' := A 2 0) rfl) hT r2 (fun w4 hl => ⟨by omega, ?_⟩))⟩)⟩))
  rw [z_tm (n := A 2 0) hy.1]
  have g0 := Int.emod_nonneg y (show A 2 0 ≠ 0 by omega)
  have g1 := Int.emod_lt_of_pos y (show 0 < A 2 0 by omega)
  generalize y % A 2 0 = g at g0 g1
  have hg7 := (hA.1.2.2.2.1 g g0 g1).2.2.2.2.2
  have hokB : z_okg (z_up A 7 g (1 - A 7 g)) := z_only_on.okg hA.1 (by rw [z_up_ne (Or.inl (by decide))]; exact (hA.1.2.2.2.1 g g0 g1).2.2.2.2.1) (by rw [z_up_same]; omega)
  have hokC := z_okg_cut hA.1 g0 g1
  have hbC := z_bears_cut g0 g1 hA.2.1
  have hud : ∀ G, z_uc mX8_drop [z_r 0, z_i g] A G T er s (A 2 0 - 1) (z_note (z_cut A g) 2 g (A 6 g)) (z_push G A) T er s := fun G => by
    have := uc_drop (A := A) (H := G) (T := T) (er := er) (s := s) (g := g)
    rw [z_ddrop, if_pos ⟨g0, g1⟩] at this
    exact this
  have hif : z_qid A g 2 = z_ro (z_cut A g) (A 1 0).toNat := by rw [z_qid, if_pos ⟨g0, g1⟩, if_pos (by decide), z_tth_2 hbC rfl]
  have hvd : ∀ G, z_qv (z_note (z_cut A g) 2 g (A 6 g)) G 10 = z_ro (z_cut A g) (A 1 0).toNat := fun G => by
    show z_ro (z_note (z_cut A g) 2 g (A 6 g)) (A 1 0).toNat = _
    rw [z_ro_note hokC]
  have hit : z_qitu A g 2 = z_tth A (z_up A 7 g (1 - A 7 g)) 2 := by rw [z_qitu, if_pos ⟨g0, g1⟩, if_pos (by decide)]
  by_cases hb : z_bears (z_up A 7 g (1 - A 7 g))
  · have hut : z_uc mX8_turn [z_r 0, z_i g] A H T er s (1 - A 7 g) (z_note (z_up A 7 g (1 - A 7 g)) 4 g (1 - A 7 g)) (z_push H A) T er s := by
      have := uc_turn (A := A) (H := H) (T := T) (er := er) (s := s) (g := g)
      rw [z_dturn, if_pos ⟨g0, g1⟩, z_try_t hb] at this
      exact this
    have e0 : z_qitu A g 2 = z_ro (z_up A 7 g (1 - A 7 g)) (A 1 0).toNat := by rw [hit, z_tth_2 hb rfl]
    have hvt : ∀ G, z_qv (z_note (z_up A 7 g (1 - A 7 g)) 4 g (1 - A 7 g)) G 10 = z_ro (z_up A 7 g (1 - A 7 g)) (A 1 0).toNat := fun G => by
      show z_ro (z_note (z_up A 7 g (1 - A 7 g)) 4 g (1 - A 7 g)) (A 1 0).toNat = _
      rw [z_ro_note hokB]
    refine hl.go (uc_ifTurned.as e0) hT r2 (fun w5 hl => hl.go hut hT r2 (fun w6 hl => ⟨fun c => absurd c (by omega), fun _ => hl.go (uc_value.as (hvt _)) hT r2 (fun w7 hl => ⟨fun _ => hl.undo hT r2 (fun v H1 w8 v0 hl y46 e46 => hl.go (uc_ifDropped.as hif) hT r2 (fun w9 hl => hl.go (hud H1) hT r2 (fun w10 hl => ⟨?_, by omega, hl.go (uc_value.as (hvd _)) hT r2 (fun w11 hl => ⟨rfl, hl.undo hT r2 (fun v2 H2 w12 v20 hl => ⟨by omega, hl.isAs hT q2 q3 r2 r3 r23 (fun w13 hl => ⟨by decide, n386 w13 H2 hl⟩)⟩)⟩)⟩))), fun c => absurd rfl c⟩)⟩))
    rw [e46, if_neg (by omega)]
    decide
  · have hut : z_uc mX8_turn [z_r 0, z_i g] A H T er s (-5) A H T er s := by
      have := uc_turn (A := A) (H := H) (T := T) (er := er) (s := s) (g := g)
      rw [z_dturn, if_pos ⟨g0, g1⟩, z_try_f hb] at this
      exact this
    have e0 : z_qitu A g 2 = -5 := by rw [hit, z_tth_f hb]
    exact hl.go (uc_ifTurned.as e0) hT r2 (fun w5 hl => hl.go hut hT r2 (fun w6 hl => ⟨fun _ => ⟨rfl, rfl, hl.go (uc_ifDropped.as hif) hT r2 (fun w9 hl => hl.go (hud H) hT r2 (fun w10 hl => ⟨by omega, hl.go (uc_value.as (hvd _)) hT r2 (fun w11 hl => ⟨rfl, hl.undo hT r2 (fun v2 H2 w12 v20 hl => ⟨by omega, hl.isAs hT q2 q3 r2 r3 r23 (fun w13 hl => ⟨by decide, n386 w13 H2 hl⟩)⟩)⟩)⟩))⟩, fun c => absurd (by decide) c⟩))
theorem L_fore_94 (hT : z_isTG sh 0) (hr : z_rws3 sh a1 a2 a3) (hA : z_ok A) (hQ : z_yes a2 A T er s sh Q) (hl : z_LX a2 (z_tl A) w A H T er s) : z_Sem mL_foretold (sh.length, 0) 94 [(0, z_r 0), (1, z_r a1), (2, z_r a2), (3, z_r a3), (4, z_i ((z_tl A).length : Int))] [] (sh, w) Q := by
  have hr' := hr
  obtain ⟨⟨r1, r2, r3⟩, ⟨r12, r23⟩, q1, q2, q3⟩ := hr
  have n0 := hA.1.2.1
  have hE := hA.1.1
  refine t_L_foretold_94 hT q1 q2 q3 (hl.isAs hT q2 q3 r2 r3 r23 (fun w1 hl => ⟨by decide, hl.draw q1 r1 r12 (fun y w2 hy hl => hl.go (uc_value.as (v' := A 1 0) rfl) hT r2 (fun w3 hl => ⟨by omega, hl.draw q1 r1 r12 (fun z w4 hz hl => hl.go (uc_value.as (v' := A 0 0) rfl) hT r2 (fun w5 hl => ⟨by omega, ?_⟩))⟩))⟩))
  rw [z_tm (n := A 1 0) hy.1, z_tm (n := A 0 0) hz.1]
  have e0 := Int.emod_nonneg y (show A 1 0 ≠ 0 by omega)
  have e1 := Int.emod_lt_of_pos y (show 0 < A 1 0 by omega)
  have t0 := Int.emod_nonneg z (show A 0 0 ≠ 0 by omega)
  have t1 := Int.emod_lt_of_pos z (show 0 < A 0 0 by omega)
  generalize y % A 1 0 = e at e0 e1
  generalize z % A 0 0 = t at t0 t1
  have hc1 : (0 ≤ e ∧ e < A 1 0) ∧ (0 ≤ t ∧ t ≤ A 0 0) ∧ (0 ≤ (2 : Int) ∧ (2 : Int) ≤ 2) := ⟨⟨e0, e1⟩, ⟨t0, by omega⟩, by decide⟩
  have hup := uc_pin (A := A) (H := H) (T := T) (er := er) (s := s) (e := e) (t := t)
  rw [z_dpin, if_pos ⟨e0, e1, t0, by omega⟩] at hup
  have hqi : z_qip A e t 2 = if e = 0 ∨ A 8 e ≠ -1 then -3 else z_tth A (z_up A 8 e t) 2 := by rw [z_qip, if_pos hc1]
  by_cases c : e = 0 ∨ A 8 e ≠ -1
  · rw [if_pos c] at hup hqi
    exact hl.go (uc_ifPinned.as hqi) hT r2 (fun w6 hl => hl.go uc_can hT r2 (fun w7 hl => hl.go hup hT r2 (fun w8 hl => ⟨fun _ => ⟨rfl, L_fore_211 hT hr' hA hQ hl⟩, fun c => absurd (show (-3 : Int) < 0 by decide) c⟩)))
  · rw [if_neg c] at hup hqi
    have ne0 : e ≠ 0 := fun q => c (Or.inl q)
    have hu : A 8 e = -1 := Classical.byContradiction fun q => c (Or.inr q)
    have hokB := z_okg_pin hA.1 ne0 (t := t) ⟨by omega, by omega⟩
    by_cases hb : z_bears (z_up A 8 e t)
    · rw [z_try_t hb] at hup
      rw [z_tth_2 hb rfl] at hqi
      have hnp := z_np_R (A := z_up A 8 e t) (A 1 0).toNat
      have hcan : z_qc A e t = 1 := by
        have : - z_dd A (-1) e 0 ≤ t ∧ t ≤ z_dd A (-1) 0 e := (z_pin_iff hA.1 hA.2.1 (by omega) e1 hu t0).mp hb
        rw [z_qc, if_pos ⟨e0, e1⟩, if_pos this]
      refine hl.go (uc_ifPinned.as hqi) hT r2 (fun w6 hl => hl.go (uc_can.as hcan) hT r2 (fun w7 hl => hl.go hup hT r2 (fun w8 hl => ⟨fun c => absurd c (by show ¬ z_np (z_up A 8 e t) (A 1 0).toNat < 0; omega), fun _ => ⟨rfl, hl.go uc_value hT r2 (fun w9 hl => ⟨?_, hl.undo hT r2 (fun v H1 w10 v0 hl => ⟨by omega, L_fore_211 hT hr' hA hQ hl⟩)⟩)⟩⟩)))
      show z_ro (z_note (z_up A 8 e t) 5 e t) (A 1 0).toNat = _
      rw [z_ro_note hokB]
    · rw [z_try_f hb] at hup
      rw [z_tth_f hb] at hqi
      exact hl.go (uc_ifPinned.as hqi) hT r2 (fun w6 hl => hl.go uc_can hT r2 (fun w7 hl => hl.go hup hT r2 (fun w8 hl => ⟨fun _ => ⟨rfl, L_fore_211 hT hr' hA hQ hl⟩, fun c => absurd (show (-5 : Int) < 0 by decide) c⟩)))
theorem L_foretold {K : Int → z_Mm → Prop} (hT : z_isTG sh 0) (hr : z_rws3 sh a1 a2 a3) (hl : z_JC w A H T er s) (k : ∀ w' H', z_LX a2 (z_tl A) w' A H' T er s → K 1 w') : z_CI mL_foretold [z_r 0, z_r a1, z_r a2, z_r a3] sh w K := by
  have hr' := hr
  obtain ⟨⟨r1, r2, r3⟩, ⟨r12, r23⟩, q1, q2, q3⟩ := hr
  have hA := hl.1.1
  have hE := hA.1.1
  have hQ : z_yes a2 A T er s sh (fun r σ => ∃ (x : Int) (w' : z_Mm), r = some (z_i x) ∧ σ = (sh, w') ∧ K x w') := fun w H hl => ⟨1, w, rfl, rfl, k w H hl⟩
  obtain ⟨l1, l2, l3⟩ := z_le_end hA
  refine z_CIi (t_L_foretold hT q1 q2 q3 (z_LX.tells hl hT q2 r2 (fun w1 hl => L_gaps hT hr' hl (fun w2 H1 hl => ⟨by decide, hl.go (uL_bear hA (by decide)) hT r2 (fun w3 hl => ⟨by decide, hl.go uc_leastEnd hT r2 (fun w4 hl => ?_)⟩)⟩))))
  generalize max 1 (z_ge A (A 1 0).toNat) = le at l1 l2 l3
  have hue := uc_end (A := A) (H := H1) (T := T) (er := er) (s := s) (n := le)
  rw [z_dend, if_pos l1] at hue
  by_cases c : A 0 0 = le
  · rw [if_pos c] at hue
    have n82 : ∀ w, z_LX a2 (z_tl A) w A H1 T er s → z_Sem mL_foretold (sh.length, 0) 82 [(0, z_r 0), (1, z_r a1), (2, z_r a2), (3, z_r a3), (4, z_i ((z_tl A).length : Int)), (7, z_i (-2))] [] (sh, w) _ := fun w hl => t_L_foretold_82 hT q1 q2 q3 ⟨fun _ => L_fore_94 hT hr' hA hQ hl, fun c => absurd (by decide) c⟩
    refine hl.go hue hT r2 (fun w5 hl => ⟨fun c => absurd rfl c, fun _ => n82 w5 hl, fun h1 => ⟨⟨by omega, by omega⟩, ?_⟩⟩)
    have hue2 := uc_end (A := A) (H := H1) (T := T) (er := er) (s := s) (n := le - 1)
    rw [z_dend, if_pos ⟨by omega, by omega⟩, if_neg (by omega), z_try_f (l3 h1)] at hue2
    exact hl.go hue2 hT r2 (fun w6 hl => ⟨rfl, n82 w6 hl⟩)
  · rw [if_neg c, z_try_t l2] at hue
    have n82 : ∀ w, z_LX a2 (z_tl A) w (z_note (z_up A 0 0 le) 7 le (A 0 0)) (z_push H1 A) T er s → z_Sem mL_foretold (sh.length, 0) 82 [(0, z_r 0), (1, z_r a1), (2, z_r a2), (3, z_r a3), (4, z_i ((z_tl A).length : Int)), (7, z_i (A 0 0))] [] (sh, w) _ := fun w hl => t_L_foretold_82 hT q1 q2 q3 ⟨fun c => absurd c (by omega), fun _ => hl.undo hT r2 (fun v H2 w' v0 hl => ⟨by omega, L_fore_94 hT hr' hA hQ hl⟩)⟩
    refine hl.go hue hT r2 (fun w5 hl => ⟨fun _ => ⟨by show ¬ A 0 0 < 0; omega, True.intro⟩, fun _ => n82 w5 hl, fun h1 => ⟨⟨by omega, by omega⟩, ?_⟩⟩)
    have hue2 := uc_end (A := z_note (z_up A 0 0 le) 7 le (A 0 0)) (H := z_push H1 A) (T := T) (er := er) (s := s) (n := le - 1)
    have e00 : z_note (z_up A 0 0 le) 7 le (A 0 0) 0 0 = le := rfl
    have hnb : ¬ z_bears (z_up (z_note (z_up A 0 0 le) 7 le (A 0 0)) 0 0 (le - 1)) := fun ⟨x, hx⟩ => l3 h1 ⟨x, hx⟩
    rw [z_dend, if_pos ⟨by omega, by omega⟩, e00, if_neg (by omega), z_try_f hnb] at hue2
    exact hl.go hue2 hT r2 (fun w6 hl => ⟨rfl, n82 w6 hl⟩)
end ZLAW6
