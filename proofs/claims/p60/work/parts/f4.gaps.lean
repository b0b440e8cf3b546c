/-! GAPS: the check holds -/
section ZLAW4
variable {sh : List z_C} {w w0 : z_Mm} {Q : Option z_V → z_S → Prop} {A B : z_A} {H : List z_A} {T : z_T} {er : Int} {s : Nat → Option z_A} {a1 a2 a3 : Nat}
/-- the law's rows -/
def z_rws3 (sh : List z_C) (a1 a2 a3 : Nat) : Prop := (161 ≤ a1 ∧ 161 ≤ a2 ∧ 161 ≤ a3) ∧ (a1 ≠ a2 ∧ a2 ≠ a3) ∧ sh[a1]? = some (.inr (.inl (0, 8))) ∧ sh[a2]? = some (.inr (.inl (0, 400))) ∧ sh[a3]? = some (.inr (.inl (0, 400)))
/-- the answer of a check: 1, with the same plan -/
def z_yes (a2 : Nat) (A : z_A) (T : z_T) (er : Int) (s : Nat → Option z_A) (sh : List z_C) (Q : Option z_V → z_S → Prop) : Prop := ∀ w H, z_LX a2 (z_tl A) w A H T er s → Q (some (z_i 1)) (sh, w)
theorem L_gaps_736 (hT : z_isTG sh 0) (hr : z_rws3 sh a1 a2 a3) (hQ : z_yes a2 A T er s sh Q) (hl : z_LX a2 (z_tl A) w A H T er s) : z_Sem mL_gaps (sh.length, 0) 736 [(0, z_r 0), (2, z_r a2), (3, z_r a3), (8, z_i ((z_tl A).length : Int)), (16, z_i 1)] [] (sh, w) Q := by
  obtain ⟨⟨r1, r2, r3⟩, ⟨r12, r23⟩, q1, q2, q3⟩ := hr
  exact t_L_gaps_736 hT q1 q2 q3 (hl.isAs hT q2 q3 r2 r3 r23 (fun w' hl => ⟨by decide, hQ w' H hl⟩))
theorem L_gaps_605 {a b kd : Int} (hT : z_isTG sh 0) (hr : z_rws3 sh a1 a2 a3) (hA : z_ok A) (h24 : ¬ A 2 0 = 24) (ha : z_bl (A 1 0) a) (hb : z_bl (A 1 0) b) (hab : a ≠ b) (hkd : 0 ≤ kd ∧ kd ≤ 1) (hQ : z_yes a2 A T er s sh Q) (hl : z_LX a2 (z_tl A) w B (z_push H A) T er s) : z_Sem mL_gaps (sh.length, 0) 605 [(0, z_r 0), (2, z_r a2), (3, z_r a3), (4, z_i a), (5, z_i b), (6, z_i kd), (8, z_i ((z_tl A).length : Int)), (15, z_i (z_ti A a b kd))] [] (sh, w) Q := by
  have hr' := hr
  obtain ⟨⟨r1, r2, r3⟩, ⟨r12, r23⟩, q1, q2, q3⟩ := hr
  have next : ∀ w H, z_LX a2 (z_tl A) w A H T er s → z_Sem mL_gaps (sh.length, 0) 729 [(0, z_r 0), (2, z_r a2), (3, z_r a3), (8, z_i ((z_tl A).length : Int))] [] (sh, w) Q := fun w H hl => t_L_gaps_729 hT q1 q2 q3 (L_gaps_736 hT hr' hQ hl)
  refine t_L_gaps_605 hT q1 q2 q3 (hl.undo hT r2 (fun v H1 w1 v0 hl => ⟨by omega, hl.isAs hT q2 q3 r2 r3 r23 (fun w2 hl => ⟨by decide, fun _ => L_gaps_736 hT hr' hQ hl, fun h15 => ?_⟩)⟩))
  obtain ⟨t1, t2, t3⟩ := z_ti_lr hA ha hb hkd (by omega)
  refine hl.go (uc_tell_y hA ⟨ha, hb, hab, hkd, by omega, t1⟩ h24 t2) hT r2 (fun w3 hl => ⟨by have := hA.1.2.2.1; omega, hl.undo hT r2 (fun v2 H2 w4 v20 hl => ⟨by omega, fun _ => ⟨⟨by omega, by omega⟩, True.intro⟩, fun _ => ⟨⟨by omega, by omega⟩, True.intro⟩, fun y22 e22 => ⟨fun _ => next w4 H2 hl, fun c0 => ⟨fun _ => next w4 H2 hl, fun c9 => ?_⟩⟩⟩)⟩)
  rw [← e22] at t3
  have hlt : ¬ 0 ≤ z_lr A (-1) a b kd y22 := by
    by_cases c : kd = 0
    · rw [if_pos c] at e22
      rw [if_pos (Or.inl (by omega))] at t3
      omega
    · rw [if_pos (Or.inr c)] at t3
      omega
  refine hl.go (uc_tell_n hA ⟨ha, hb, hab, hkd, by omega, by omega⟩ h24 hlt) hT r2 (fun w5 hl => ⟨rfl, hl.undo hT r2 (fun v3 H3 w6 v30 hl => ⟨by omega, next w6 H3 hl⟩)⟩)
theorem z_lr_if {one oth kd n : Int} : z_lr A (-1) one oth kd n = (if kd = 0 then n else -n) + z_dd A (-1) (if kd = 0 then oth else one) (if kd = 0 then one else oth) := rfl
theorem z_ti_R {one oth kd : Int} (d1 : -999 ≤ z_dd A (-1) one oth ∧ z_dd A (-1) one oth ≤ 999) (d2 : -999 ≤ z_dd A (-1) oth one ∧ z_dd A (-1) oth one ≤ 999) : -2 ≤ z_ti A one oth kd ∧ z_ti A one oth kd ≤ 999 := by
  rw [z_ti]
  by_cases c : kd = 0
  · rw [if_pos c]; omega
  · rw [if_neg c]
    by_cases c2 : z_dd A (-1) one oth < 0
    · rw [if_pos c2]; omega
    · rw [if_neg c2]; omega
theorem L_gaps_516 {a b kd n y room : Int} (hT : z_isTG sh 0) (hr : z_rws3 sh a1 a2 a3) (hA : z_ok A) (h24 : ¬ A 2 0 = 24) (ht : z_tll A a b kd n) (hy : (0 ≤ z_lr A (-1) a b kd n ∧ y ≤ 0 ∧ room = z_cg (z_dd A (-1)) (z_Dd (z_S1p A a b kd n) (A 1 0)) (A 1 0) 2) ∨ (¬ 0 ≤ z_lr A (-1) a b kd n ∧ ¬ y ≤ 0)) (hQ : z_yes a2 A T er s sh Q) (hl : z_LX a2 (z_tl A) w A H T er s) : z_Sem mL_gaps (sh.length, 0) 516 [(0, z_r 0), (2, z_r a2), (3, z_r a3), (4, z_i a), (5, z_i b), (6, z_i kd), (7, z_i n), (8, z_i ((z_tl A).length : Int)), (9, z_i y), (13, z_i room), (15, z_i (z_ti A a b kd)), (16, z_i 1)] [] (sh, w) Q := by
  have hr' := hr
  obtain ⟨⟨r1, r2, r3⟩, ⟨r12, r23⟩, q1, q2, q3⟩ := hr
  obtain ⟨ha, hb, hab, hkd, hn⟩ := id ht
  have d1 := z_dd_R (lo := -1) hA.1 hA.2.1 ha hb
  have d2 := z_dd_R (lo := -1) hA.1 hA.2.1 hb ha
  have hA20 := hA.1.2.2.1
  have hti := z_ti_R (A := A) (one := a) (oth := b) (kd := kd) d1 d2
  refine t_L_gaps_516 hT q1 q2 q3 ?_
  rcases hy with ⟨h0, hy0, hroom⟩ | ⟨h0, hy0⟩
  · refine hl.go (uc_tell_y hA ht h24 h0) hT r2 (fun w1 hl => ?_)
    have hB := hl.1.1.1
    have e1 : z_note (z_add A a b kd n 1) 1 (A 2 0) n 1 0 = A 1 0 := by rw [z_note_lt (by decide), z_add_lt (by decide)]
    rw [if_neg (show ¬ A 2 0 = -5 by omega), if_pos hy0]
    refine ⟨rfl, fun c => absurd c (by omega), fun _ => hl.go uc_value hT r2 (fun w2 hl => ⟨?_, hl.go uc_spare hT r2 (fun w3 hl => ⟨fun _ => ⟨?_, True.intro⟩, fun _ => ⟨?_, True.intro⟩, ?_, L_gaps_605 hT hr' hA h24 ha hb hab hkd hQ hl⟩)⟩)⟩
    · show z_ro _ (z_note (z_add A a b kd n 1) 1 (A 2 0) n 1 0).toNat = room
      rw [hroom, z_cg_c (e' := z_dd (z_note (z_add A a b kd n 1) 1 (A 2 0) n) (-1)) hA.1.2.1.1 (fun p q hp hq => z_add_dd hA ht h0 hB hp hq), z_cg_2, e1]
    · constructor <;> omega
    · constructor <;> omega
    · obtain ⟨f3, f4, f5, f6, f7⟩ := z_add_new (A := A) (one := a) (oth := b) (kd := kd) (n := n) (on := 1)
      have hadd := z_add_b hA ht h0 hB
      have g2 : z_note (z_add A a b kd n 1) 1 (A 2 0) n 2 0 = A 2 0 + 1 := by rw [z_note_lt (by decide)]; rfl
      rw [z_qsp, if_pos ⟨hA20.1, by rw [g2]; omega⟩, z_note_lt (by decide), z_note_lt (by decide), z_note_lt (by decide), z_note_lt (by decide), z_note_lt (by decide), f3, f4, f5, f6, f7, if_neg (by decide)]
      have : z_ti (z_note (z_add A a b kd n 1) 1 (A 2 0) n) a b kd = z_ti A a b kd := by
        rw [z_ti, z_ti]
        by_cases c : kd = 0
        · rw [if_pos c, if_pos c] at hadd ⊢
          rw [hadd]
        · rw [if_neg c, if_neg c] at hadd ⊢
          rw [hadd]
      rw [this]
  · refine hl.go (uc_tell_n hA ht h24 h0) hT r2 (fun w1 hl => ?_)
    rw [if_pos (rfl : (-5 : Int) = -5), if_neg hy0]
    exact ⟨rfl, fun _ => L_gaps_605 hT hr' hA h24 ha hb hab hkd hQ hl, fun c => absurd rfl c⟩
theorem z_qy_0 {a b kd n : Int} (ht : z_tll A a b kd n) (dp : Int) (hd : 0 ≤ dp ∧ dp ≤ 2) (h : 0 ≤ z_lr A (-1) a b kd n) : z_qy A a b kd n dp = if dp = 0 then 0 else -2 := by
  have ht' := ht
  unfold z_tll at ht'
  rw [z_qy, if_pos ht', if_pos hd, if_neg (by omega)]
theorem z_qy_1 {a b kd n : Int} (ht : z_tll A a b kd n) (dp : Int) (hd : 0 ≤ dp ∧ dp ≤ 2) (h : ¬ 0 ≤ z_lr A (-1) a b kd n) : z_qy A a b kd n dp = if dp = 0 then (if z_os A a b kd n = -2 then 2 else 1) else if dp = 1 then - z_lr A (-1) a b kd n else z_wy A (z_bg kd b a) (z_bg kd a b) 0 := by
  have ht' := ht
  unfold z_tll at ht'
  rw [z_qy, if_pos ht', if_pos hd, if_pos (by omega)]
theorem L_gaps_330 {a b kd n y9 room : Int} (hT : z_isTG sh 0) (hr : z_rws3 sh a1 a2 a3) (hA : z_ok A) (h24 : ¬ A 2 0 = 24) (ht : z_tll A a b kd n) (h0 : ¬ 0 ≤ z_lr A (-1) a b kd n) (hy9 : y9 = z_qy A a b kd n 0) (hQ : z_yes a2 A T er s sh Q) :
    ∀ (k i : Nat), i + k = (z_cn A (z_bg kd b a) (z_bg kd a b)).toNat → ∀ w H, z_LX a2 (z_tl A) w A H T er s → z_Sem mL_gaps (sh.length, 0) 330 [(0, z_r 0), (2, z_r a2), (3, z_r a3), (4, z_i a), (5, z_i b), (6, z_i kd), (7, z_i n), (8, z_i ((z_tl A).length : Int)), (9, z_i y9), (10, z_i (- z_lr A (-1) a b kd n)), (13, z_i room), (14, z_i (z_qcu A a b kd n)), (15, z_i (z_ti A a b kd)), (17, z_i (z_bg kd b a)), (18, z_i (z_bg kd a b)), (19, z_i (z_lr A (-1) a b kd n - z_dd A (-1) (z_nd A (z_bg kd a b) (z_bg kd b a) i) (z_bg kd a b))), (20, z_i (i : Int))] [] (sh, w) Q
  | k, i, hk, w, H, hl => by
    have hr' := hr
    obtain ⟨⟨r1, r2, r3⟩, ⟨r12, r23⟩, q1, q2, q3⟩ := hr
    obtain ⟨ha, hb, hab, hkd, hn⟩ := id ht
    have ht' := ht
    unfold z_tll at ht'
    have hA20 := hA.1.2.2.1
    have d1 := z_dd_R (lo := -1) hA.1 hA.2.1 ha hb
    have d2 := z_dd_R (lo := -1) hA.1 hA.2.1 hb ha
    have hlr := z_lr_R (lo := -1) (kd := kd) hA.1 hA.2.1 ha hb hn
    have hf : z_bl (A 1 0) (z_bg kd b a) := z_bg_bl hb ha
    have hg : z_bl (A 1 0) (z_bg kd a b) := z_bg_bl ha hb
    have hne : z_bg kd b a ≠ z_bg kd a b := z_bg_ne hab
    have hcn := z_cn_R hA.1 hA.2.1 hf hg
    have hc0 : z_cn A (z_bg kd b a) (z_bg kd a b) ≠ 0 := fun c => hne ((z_cn_0 hA.1 hA.2.1 hf hg).mp c)
    have n0 := hA.1.2.1
    have hik : (i : Int) ≤ z_cn A (z_bg kd b a) (z_bg kd a b) := by omega
    obtain ⟨hnd, hcd⟩ := z_nd_ok hA.1 hA.2.1 hf hg i hik
    have q9 := z_dd_R (lo := -1) hA.1 hA.2.1 hnd hg
    have e9 : z_qy A a b kd n 0 = if z_os A a b kd n = -2 then 2 else 1 := by rw [z_qy_1 ht 0 (by decide) h0, if_pos rfl]
    have hring : ∀ j : Int, 0 ≤ j → z_qri A a b kd n j = z_wy A (z_bg kd b a) (z_bg kd a b) j := fun j j0 => by rw [z_qri, if_pos ht', if_pos j0, if_pos (by omega)]
    have hy0 : ¬ y9 ≤ 0 := by rw [hy9, e9]; split <;> decide
    have next : ∀ w H, z_LX a2 (z_tl A) w A H T er s → z_Sem mL_gaps (sh.length, 0) 516 [(0, z_r 0), (2, z_r a2), (3, z_r a3), (4, z_i a), (5, z_i b), (6, z_i kd), (7, z_i n), (8, z_i ((z_tl A).length : Int)), (9, z_i y9), (13, z_i room), (15, z_i (z_ti A a b kd)), (16, z_i 1)] [] (sh, w) Q := fun w H hl => L_gaps_516 hT hr' hA h24 ht (Or.inr ⟨h0, hy0⟩) hQ hl
    refine t_L_gaps_330 hT q1 q2 q3 (hl.go uc_ring hT r2 (fun w1 hl => ?_))
    rw [hring _ (by omega)]
    by_cases hc : (i : Int) < z_cn A (z_bg kd b a) (z_bg kd a b)
    · match k, hk with
      | 0, hk => exact absurd hc (by omega)
      | k + 1, hk =>
        have hne2 : z_nd A (z_bg kd a b) (z_bg kd b a) i ≠ z_bg kd a b := fun c => by
          have := (z_cn_0 hA.1 hA.2.1 hnd hg).mpr c
          omega
        obtain ⟨-, hq, h1, -, h5, h6, h7⟩ := z_nx_ok hA.1 hA.2.1 hnd hg hne2
        have q5 := z_dd_R (lo := -1) hA.1 hA.2.1 h5 hg
        have hmem := List.mem_of_getElem? hq
        have hcode : 0 ≤ (z_nxt A (z_bg kd a b) (z_nd A (z_bg kd a b) (z_bg kd b a) i)).2.2.2 := by
          have hm := hmem
          rw [z_Sx, List.mem_append, List.mem_append, z_S1_mem, z_S2_mem, z_S3_mem] at hm
          rcases hm with (⟨j, hj, hn, e⟩ | ⟨j, j1, j2, e | e⟩) | ⟨j, j1, j2, j3, e | e⟩ <;> rw [e]
          · show 0 ≤ (j : Int); omega
          · show 0 ≤ 100 + j; omega
          · show 0 ≤ 200 + j; omega
          · show 0 ≤ 300 + j; omega
          · show 0 ≤ 400 + j; omega
        rw [z_wy, if_pos hc, show ((i : Int)).toNat = i by omega]
        refine ⟨fun c => absurd c (by omega), fun _ => hl.go (uc_ring.as (by rw [hring _ (by omega), z_wy, if_pos hc, show ((i : Int)).toNat = i by omega])) hT r2 (fun w2 hl => hl.go (uL_lengthOf hA.1 hmem) hT r2 (fun w3 hl => ⟨?_, ⟨by omega, by omega⟩, ?_⟩))⟩
        · constructor <;> omega
        · have := L_gaps_330 (room := room) hT hr' hA h24 ht h0 hy9 hQ k (i + 1) (by omega) w3 H hl
          rw [show z_lr A (-1) a b kd n - z_dd A (-1) (z_nd A (z_bg kd a b) (z_bg kd b a) (i + 1)) (z_bg kd a b) = z_lr A (-1) a b kd n - z_dd A (-1) (z_nd A (z_bg kd a b) (z_bg kd b a) i) (z_bg kd a b) + (z_nxt A (z_bg kd a b) (z_nd A (z_bg kd a b) (z_bg kd b a) i)).2.2.1 by rw [show z_nd A (z_bg kd a b) (z_bg kd b a) (i + 1) = (z_nxt A (z_bg kd a b) (z_nd A (z_bg kd a b) (z_bg kd b a) i)).2.1 from rfl]; omega] at this
          exact this
    · have hend : z_nd A (z_bg kd a b) (z_bg kd b a) i = z_bg kd a b := (z_cn_0 hA.1 hA.2.1 hnd hg).mp (by omega)
      have hz := z_D0 (z_isd hA.1 hA.2.1 (-1)) hg
      have hz' : z_dd A (-1) (z_bg kd a b) (z_bg kd a b) = 0 := hz
      rw [z_wy, if_neg hc]
      refine ⟨fun _ => ⟨⟨by omega, by omega⟩, ?_, hl.go uc_wayLength hT r2 (fun w2 hl => ⟨?_, fun _ => ⟨by omega, True.intro⟩, hl.go uc_ring hT r2 (fun w3 hl => hl.go uc_why hT r2 (fun w4 hl => ⟨?_, fun c => ⟨?_, True.intro⟩, fun c => ⟨?_, True.intro⟩, fun _ => next w4 H hl, fun hcu => ?_⟩))⟩)⟩, fun c => absurd (by decide) c⟩
      · rw [hend]; omega
      · rw [z_qwl, if_pos ⟨hf, hg, hne⟩]; omega
      · rw [hring 0 (by decide), z_qy_1 ht 2 (by decide) h0, if_neg (by decide), if_neg (by decide)]
      · rw [z_lr_if, if_pos c, if_pos c, if_pos c] at h0
        rw [z_ti, if_pos c]; omega
      · rw [z_lr_if, if_neg c, if_neg c, if_neg c] at h0
        rw [z_ti, if_neg c]; split <;> omega
      · rw [z_qcu, if_pos ht', if_pos (by omega)] at hcu
        have hcueq : z_qcu A a b kd n = z_fi1 (z_cup A a b kd n) (A 2 0) := by rw [z_qcu, if_pos ht', if_pos (by omega)]
        rw [hcueq]
        have hfi := z_fi1_is (p := z_cup A a b kd n) (n := A 2 0) hA20.1
        generalize z_fi1 (z_cup A a b kd n) (A 2 0) = g at hcu hfi
        rcases hfi with ⟨e, -⟩ | ⟨g0, g1, ⟨g7, glr⟩, -⟩
        · exact absurd (by omega) hcu
        obtain ⟨ho1, ho2, ho3⟩ := z_off_F hA.1 hA.2.1 g0 g1
        have hg7 := (hA.1.2.2.2.1 g g0 g1).2.2.2.2.2
        have h71 : 1 - A 7 g = 0 := by omega
        have hu : z_uc mX8_turn [z_r 0, z_i g] A H T er s 0 (z_note (z_up A 7 g 0) 4 g 0) (z_push H A) T er s := by
          have := uc_turn (A := A) (H := H) (T := T) (er := er) (s := s) (g := g)
          rw [z_dturn, if_pos ⟨g0, g1⟩, h71, z_try_t ho2] at this
          exact this
        refine hl.go hu hT r2 (fun w5 hl => ⟨rfl, hl.go uc_why hT r2 (fun w6 hl => ⟨?_, hl.undo hT r2 (fun v H1 w7 v0 hl => ⟨by omega, next w7 H1 hl⟩)⟩)⟩)
        have hB := hl.1.1.1
        have e1 : z_note (z_up A 7 g 0) 4 g 0 1 0 = A 1 0 := by rw [z_note_lt (by decide), z_up_ne (Or.inl (by decide))]
        have hlr2 : z_lr (z_note (z_up A 7 g 0) 4 g 0) (-1) a b kd n = z_lr A g a b kd n := by
          rw [← z_lr_off hA.1 hA.2.1 g0 g1 ha hb]
          show (if kd = 0 then n else -n) + z_dd (z_note (z_up A 7 g 0) 4 g 0) (-1) _ _ = (if kd = 0 then n else -n) + z_dd (z_up A 7 g 0) (-1) _ _
          rw [z_note_dd ho1]
        rw [z_qy_0 (by unfold z_tll; rw [e1]; exact ht') 0 (by decide) (by rw [hlr2]; exact glr), if_pos rfl]
theorem L_gaps {K : Int → z_Mm → Prop} (hT : z_isTG sh 0) (hr : z_rws3 sh a1 a2 a3) (hl : z_LX a2 (z_tl A) w A H T er s) (k : ∀ w' H', z_LX a2 (z_tl A) w' A H' T er s → K 1 w') : z_CI mL_gaps [z_r 0, z_r a1, z_r a2, z_r a3] sh w K := by
  have hr' := hr
  obtain ⟨⟨r1, r2, r3⟩, ⟨r12, r23⟩, q1, q2, q3⟩ := hr
  have hA := hl.1.1.1
  have n0 := hA.1.2.1
  have hA20 := hA.1.2.2.1
  have hQ : z_yes a2 A T er s sh (fun r σ => ∃ (x : Int) (w' : z_Mm), r = some (z_i x) ∧ σ = (sh, w') ∧ K x w') := fun w H hl => ⟨1, w, rfl, rfl, k w H hl⟩
  refine z_CIi (t_L_gaps hT q1 q2 q3 (hl.draw q1 r1 r12 (fun y2 w1 hy2 hl => hl.go (uc_value.as (v' := A 1 0) rfl) hT r2 (fun w2 hl => ?_))))
  have ha0 := z_tm (n := A 1 0) hy2.1
  have ha1 := Int.emod_nonneg y2 (show A 1 0 ≠ 0 by omega)
  have ha2 := Int.emod_lt_of_pos y2 (show 0 < A 1 0 by omega)
  rw [ha0]
  generalize y2 % A 1 0 = a at ha1 ha2
  refine ⟨by omega, ⟨by omega, by omega⟩, hl.draw q1 r1 r12 (fun y8 w3 hy8 hl => hl.go (uc_value.as (v' := A 1 0) rfl) hT r2 (fun w4 hl => ?_))⟩
  rw [z_fmax, z_tm (n := max 1 (A 1 0 - 1)) hy8.1]
  have hb1 := Int.emod_nonneg y8 (show max 1 (A 1 0 - 1) ≠ 0 by omega)
  have hb2 := Int.emod_lt_of_pos y8 (show 0 < max 1 (A 1 0 - 1) by omega)
  generalize y8 % max 1 (A 1 0 - 1) = b0 at hb1 hb2
  refine ⟨⟨by omega, by omega⟩, by omega, ⟨by omega, by omega⟩, hl.go (uc_value.as (v' := A 1 0) rfl) hT r2 (fun w5 hl => ⟨by omega, fun b eb => hl.draw q1 r1 r12 (fun y19 w6 hy19 hl => hl.draw q1 r1 r12 (fun y21 w7 hy21 hl => ?_))⟩)⟩
  rw [z_tm (n := A 1 0) (by omega)] at eb
  have hb3 := Int.emod_nonneg (a + 1 + b0) (show A 1 0 ≠ 0 by omega)
  have hb4 := Int.emod_lt_of_pos (a + 1 + b0) (show 0 < A 1 0 by omega)
  rw [← eb] at hb3 hb4
  clear eb
  rw [z_tm (n := 2) hy19.1, z_tm (n := 60) hy21.1]
  have hk1 := Int.emod_nonneg y19 (show (2 : Int) ≠ 0 by decide)
  have hk2 := Int.emod_lt_of_pos y19 (show (0 : Int) < 2 by decide)
  have hn1 := Int.emod_nonneg y21 (show (60 : Int) ≠ 0 by decide)
  have hn2 := Int.emod_lt_of_pos y21 (show (0 : Int) < 60 by decide)
  generalize y19 % 2 = kd at hk1 hk2
  generalize y21 % 60 = n at hn1 hn2
  refine ⟨fun _ => ⟨1, w7, rfl, rfl, k w7 H hl⟩, fun hab => hl.go (uc_value.as (v' := A 2 0) rfl) hT r2 (fun w8 hl => ⟨fun _ => ⟨1, w8, rfl, rfl, k w8 H hl⟩, fun h24 => ?_⟩)⟩
  have ht : z_tll A a b kd n := ⟨⟨ha1, ha2⟩, ⟨hb3, hb4⟩, hab, ⟨hk1, by omega⟩, hn1, by omega⟩
  have ht' := ht
  unfold z_tll at ht'
  have hti : z_qt A a b kd = z_ti A a b kd := by rw [z_qt, if_pos ⟨⟨ht.1, ht.2.1, hab⟩, ht.2.2.2.1⟩]
  refine z_LX.tells hl.1 hT q2 r2 (fun w9 hl => hl.go uc_why hT r2 (fun w10 hl => hl.go uc_why hT r2 (fun w11 hl => hl.go uc_ifTold hT r2 (fun w12 hl => hl.go uc_ifTold hT r2 (fun w13 hl => hl.go uc_ifTold hT r2 (fun w14 hl => hl.go uc_culprit hT r2 (fun w15 hl => hl.go (uc_tightest.as hti) hT r2 (fun w16 hl => hl.isAs hT q2 q3 r2 r3 r23 (fun w17 hl => ?_)))))))))
  refine ⟨by decide, ?_⟩
  have hit : ∀ p : Int, 0 ≤ p ∧ p ≤ 2 → z_qit A a b kd n p = if 0 ≤ z_lr A (-1) a b kd n then z_cg (z_dd A (-1)) (z_Dd (z_S1p A a b kd n) (A 1 0)) (A 1 0) p else -5 := fun p hp => by rw [z_qit, if_pos ht', if_pos hp]
  rw [hit 0 (by decide), hit 1 (by decide), hit 2 (by decide)]
  have hlr := z_lr_R (lo := -1) (kd := kd) hA.1 hA.2.1 ht.1 ht.2.1 ht.2.2.2.2
  by_cases h0 : 0 ≤ z_lr A (-1) a b kd n
  · rw [if_pos h0, if_pos h0, if_pos h0, z_qy_0 ht 0 (by decide) h0, z_qy_0 ht 1 (by decide) h0, if_pos (rfl : (0 : Int) = 0), if_neg (show ¬ (1 : Int) = 0 by decide)]
    have h00 : z_bl (A 1 0) 0 := ⟨Int.le_refl _, by omega⟩
    have hcg := z_cg_01 (d := z_dd A (-1)) (d' := z_Dd (z_S1p A a b kd n) (A 1 0)) (n := A 1 0) (by
      have e1 := z_D0 (z_isd hA.1 hA.2.1 (-1)) h00
      have e2 := z_D0 (z_sv_D (z_S1p_sv hA.1 hA.2.1 ht.1 ht.2.1 h0)) h00
      exact e1.trans e2.symm) n0
    refine ⟨rfl, fun _ => ⟨by omega, by omega, True.intro⟩, fun c => absurd rfl c, fun _ => ?_, fun c => absurd (Int.le_refl _) c⟩
    exact L_gaps_516 hT hr' hA h24 ht (Or.inl ⟨h0, Int.le_refl _, rfl⟩) hQ hl
  · have e9 : z_qy A a b kd n 0 = if z_os A a b kd n = -2 then 2 else 1 := by rw [z_qy_1 ht 0 (by decide) h0, if_pos rfl]
    have hy0 : ¬ z_qy A a b kd n 0 ≤ 0 := by rw [e9]; split <;> decide
    have e10 : z_qy A a b kd n 1 = - z_lr A (-1) a b kd n := by rw [z_qy_1 ht 1 (by decide) h0, if_neg (by decide), if_pos rfl]
    rw [if_neg h0, if_neg h0, if_neg h0, e10, if_neg (show ¬ z_qy A a b kd n 0 = 0 by omega), if_neg (show ¬ - z_lr A (-1) a b kd n = -2 by omega)]
    refine ⟨rfl, fun c => absurd c (by omega), fun _ => ⟨rfl, rfl, rfl, by omega, True.intro⟩, fun c => absurd c hy0, fun _ y71 e71 y76 e76 => ⟨fun _ => ⟨⟨by omega, by omega⟩, True.intro⟩, fun y83 e83 => ?_⟩⟩
    have e71' : y71 = z_bg kd b a := e71
    have e76' : y76 = z_bg kd a b := e76
    have := L_gaps_330 (room := -5) hT hr' hA h24 ht h0 rfl hQ (z_cn A (z_bg kd b a) (z_bg kd a b)).toNat 0 (by omega) w17 H hl
    rw [show z_lr A (-1) a b kd n - z_dd A (-1) (z_nd A (z_bg kd a b) (z_bg kd b a) 0) (z_bg kd a b) = y83 by
      rw [e83]
      show (if kd = 0 then n else -n) + z_dd A (-1) (z_bg kd b a) (z_bg kd a b) - z_dd A (-1) (z_bg kd b a) (z_bg kd a b) = _
      omega] at this
    rw [e71', e76']
    exact this
end ZLAW4
