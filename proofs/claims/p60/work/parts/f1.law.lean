/-! TIMES THAT BEAR, BOUNDS AND WAYS -/
theorem z_n24 : ∀ t : Nat, t < 25 → ∀ n : Nat, n < 25 → n = 0 ∨ Op.cmpValue (FP.fcmp (FP.fdiv (FP.i2f (Int32.ofInt (t : Int))) (FP.i2f (Int32.ofInt (n : Int)))) (FP.fdiv (FP.i2f (Int32.ofInt (t : Int))) (FP.i2f (Int32.ofInt (n : Int))))) .l = Int32.ofInt 0 := by
  decide +kernel
theorem z_n24' {t n : Int} (ht : 0 ≤ t ∧ t ≤ 24) (hn : 0 ≤ n ∧ n ≤ 24) (h : ¬ n = 0) : Op.cmpValue (FP.fcmp (FP.fdiv (FP.i2f (Int32.ofInt t)) (FP.i2f (Int32.ofInt n))) (FP.fdiv (FP.i2f (Int32.ofInt t)) (FP.i2f (Int32.ofInt n)))) .l = Int32.ofInt 0 := by
  rcases z_n24 t.toNat (by omega) n.toNat (by omega) with q | q
  · omega
  · rw [show ((t.toNat : Nat) : Int) = t by omega, show ((n.toNat : Nat) : Int) = n by omega] at q
    exact q
theorem z_dcc0 {x : UInt64} (h : vf_n64 x) : Op.cmpValue (FP.dcmp x x) .l = Int32.ofInt 0 := by rw [z_dcc h]; rfl
/-- the law's own rows are as they were -/
def z_LJ (w0 w : z_Mm) (A : z_A) (H : List z_A) (T : z_T) (er : Int) (s : Nat → Option z_A) : Prop := z_JC w A H T er s ∧ ∀ a : Nat, 161 ≤ a → w a = w0 a
section ZLAW1
variable {sh : List z_C} {w w0 : z_Mm} {Q : Option z_V → z_S → Prop} {A A' : z_A} {H H' : List z_A} {T T' : z_T} {er er' : Int} {s s' : Nat → Option z_A} {M' : z_M} {vs : List z_V}
theorem z_LJ.rf (h : z_JC w A H T er s) : z_LJ w w A H T er s := ⟨h, fun _ _ => rfl⟩
theorem z_LJ.go {v : Int} {K : Int → z_Mm → Prop} (hl : z_LJ w0 w A H T er s) (hu : z_uc M' vs A H T er s v A' H' T' er' s') (hT : z_isTG sh 0) (k : ∀ w', z_LJ w0 w' A' H' T' er' s' → K v w') : z_CI M' vs sh w K :=
  hu sh w K hT hl.1 (fun w' h1 f => k w' ⟨h1, fun a h2 => (f a h2).trans (hl.2 a h2)⟩)
theorem z_LJ.goF {v : UInt32} {K : UInt32 → z_Mm → Prop} (hl : z_LJ w0 w A H T er s) (hu : z_ucF M' vs A H T er s v A' H' T' er' s') (hT : z_isTG sh 0) (k : ∀ w', z_LJ w0 w' A' H' T' er' s' → K v w') : z_CF M' vs sh w K :=
  hu sh w K hT hl.1 (fun w' h1 f => k w' ⟨h1, fun a h2 => (f a h2).trans (hl.2 a h2)⟩)
theorem z_LJ.goD {v : UInt64} {K : UInt64 → z_Mm → Prop} (hl : z_LJ w0 w A H T er s) (hu : z_ucD M' vs A H T er s v A' H' T' er' s') (hT : z_isTG sh 0) (k : ∀ w', z_LJ w0 w' A' H' T' er' s' → K v w') : z_CD M' vs sh w K :=
  hu sh w K hT hl.1 (fun w' h1 f => k w' ⟨h1, fun a h2 => (f a h2).trans (hl.2 a h2)⟩)
/-- the answer, seen as another number -/
theorem z_uc.as {v v' : Int} (h : z_uc M' vs A H T er s v A' H' T' er' s') (e : v = v') : z_uc M' vs A H T er s v' A' H' T' er' s' := e ▸ h
noncomputable def z_qti (A : z_A) (e p : Int) : Int := if 2 ≤ p then z_qm A e else z_qe A e p
theorem uL_time {e p : Int} : z_uc mL_time [z_r 0, z_i e, z_i p] A H T er s (z_qti A e p) A H T er s := fun sh w K hT h k =>
  z_CIi (t_L_time hT ⟨fun hc => uc_middle sh w _ hT h (fun w' h1 f => ⟨_, _, rfl, rfl, by have := k w' h1 f; rw [z_qti, if_pos hc] at this; exact this⟩), fun hc => uc_event sh w _ hT h (fun w' h1 f => ⟨_, _, rfl, rfl, by have := k w' h1 f; rw [z_qti, if_neg hc] at this; exact this⟩)⟩)
theorem z_qe_0 {e : Int} (he : z_bl (A 1 0) e) : z_qe A e 0 = - z_dd A (-1) e 0 := by rw [z_qe, if_pos he, if_pos rfl]
theorem z_qe_1 {e : Int} (he : z_bl (A 1 0) e) : z_qe A e 1 = z_dd A (-1) 0 e := by rw [z_qe, if_pos he, if_neg (by decide), if_pos rfl]
theorem z_qe_2 {e : Int} (he : z_bl (A 1 0) e) : z_qe A e 2 = z_dd A (-1) 0 e + z_dd A (-1) e 0 + 1 := by rw [z_qe, if_pos he, if_neg (by decide), if_neg (by decide), if_pos rfl]
theorem z_qe_3 {e : Int} (he : z_bl (A 1 0) e) : z_qe A e 3 = if A 8 e = -1 then -2 else A 8 e := by rw [z_qe, if_pos he, if_neg (by decide), if_neg (by decide), if_neg (by decide), if_pos rfl]
theorem z_qg_0 {g : Int} (hg : z_bl (A 2 0) g) : z_qg A g 0 = A 3 g := by rw [z_qg, if_pos hg, if_pos rfl]
theorem z_qg_1 {g : Int} (hg : z_bl (A 2 0) g) : z_qg A g 1 = A 4 g := by rw [z_qg, if_pos hg, if_neg (by decide), if_pos rfl]
theorem z_qg_2 {g : Int} (hg : z_bl (A 2 0) g) : z_qg A g 2 = A 5 g := by rw [z_qg, if_pos hg, if_neg (by decide), if_neg (by decide), if_pos rfl]
theorem z_qg_3 {g : Int} (hg : z_bl (A 2 0) g) : z_qg A g 3 = A 6 g := by rw [z_qg, if_pos hg, if_neg (by decide), if_neg (by decide), if_neg (by decide), if_pos rfl]
theorem z_qg_4 {g : Int} (hg : z_bl (A 2 0) g) : z_qg A g 4 = A 7 g := by rw [z_qg, if_pos hg, if_neg (by decide), if_neg (by decide), if_neg (by decide), if_neg (by decide), if_pos rfl]
theorem z_qg_5 {g : Int} (hg : z_bl (A 2 0) g) : z_qg A g 5 = z_b2 (z_tg A g) := by rw [z_qg, if_pos hg, if_neg (by decide), if_neg (by decide), if_neg (by decide), if_neg (by decide), if_neg (by decide), if_pos rfl]
theorem z_qg_6 {g : Int} (hg : z_bl (A 2 0) g) : z_qg A g 6 = z_b2 (z_need A g) := by rw [z_qg, if_pos hg, if_neg (by decide), if_neg (by decide), if_neg (by decide), if_neg (by decide), if_neg (by decide), if_neg (by decide), if_pos rfl]
theorem z_qg_7 {g : Int} (hg : z_bl (A 2 0) g) : z_qg A g 7 = if A 7 g = 0 then 0 else (z_gs A g).2.2.1 - z_dd A (-1) (z_gs A g).1 (z_gs A g).2.1 := by rw [z_qg, if_pos hg, if_neg (by decide), if_neg (by decide), if_neg (by decide), if_neg (by decide), if_neg (by decide), if_neg (by decide), if_neg (by decide), if_pos rfl]
/-- LENGTH of a step by its number -/
theorem uL_lengthOf (hA : z_okg A) {q : Int × Int × Int × Int} (hq : q ∈ z_Sx A (-1)) : z_uc mL_lengthOf [z_r 0, z_i q.2.2.2] A H T er s q.2.2.1 A H T er s := fun sh w K hT h k => by
  have n0 := hA.2.1
  have hm := hA.2.2.1
  refine z_CIi (t_L_lengthOf hT ?_)
  rw [z_Sx, List.mem_append, List.mem_append, z_S1_mem, z_S2_mem, z_S3_mem] at hq
  rcases hq with (⟨j, hj, hn, rfl⟩ | ⟨j, j1, j2, rfl | rfl⟩) | ⟨j, j1, j2, j3, rfl | rfl⟩
  · have hg : z_bl (A 2 0) (j : Int) := ⟨by omega, by omega⟩
    have hc : (z_gs A (j : Int)).2.2.2 = (j : Int) := rfl
    rw [hc]
    have h6 := (hA.2.2.2.1 j hg.1 hg.2).2.2.2.2.1
    refine ⟨fun c => absurd c (by omega), fun _ => (z_LJ.rf h).go uc_gap hT (fun w1 hl => ?_)⟩
    rw [z_qg_2 hg]
    refine ⟨fun c => hl.go uc_gap hT (fun w2 hl => ?_), fun c => hl.go uc_gap hT (fun w2 hl => ?_)⟩
    · rw [z_qg_3 hg]
      have := k w2 hl.1 hl.2
      rw [show (z_gs A (j : Int)).2.2.1 = A 6 j by show (if A 5 j = 0 then A 6 j else - A 6 j) = _; rw [if_pos c]] at this
      exact ⟨_, _, rfl, rfl, this⟩
    · rw [z_qg_3 hg]
      have := k w2 hl.1 hl.2
      rw [show (z_gs A (j : Int)).2.2.1 = - A 6 j by show (if A 5 j = 0 then A 6 j else - A 6 j) = _; rw [if_neg c]] at this
      exact ⟨⟨by omega, by omega⟩, _, _, rfl, rfl, this⟩
  · refine ⟨fun _ => ⟨fun c => absurd c (by show ¬ (200 : Int) ≤ 100 + j; omega), fun _ => (z_LJ.rf h).go uc_value hT (fun w1 hl => ⟨_, _, rfl, rfl, k w1 hl.1 hl.2⟩)⟩, fun c => absurd (by show (100 : Int) ≤ 100 + j; omega) c⟩
  · refine ⟨fun _ => ⟨fun _ => ⟨fun c => absurd c (by show ¬ (300 : Int) ≤ 200 + j; omega), fun _ => ⟨_, _, rfl, rfl, k w h (fun _ _ => rfl)⟩⟩, fun c => absurd (by show (200 : Int) ≤ 200 + j; omega) c⟩, fun c => absurd (by show (100 : Int) ≤ 200 + j; omega) c⟩
  · refine ⟨fun _ => ⟨fun _ => ⟨fun _ => ⟨fun c => absurd c (by show ¬ (400 : Int) ≤ 300 + j; omega), fun _ => ⟨?_, ?_⟩⟩, fun c => absurd (by show (300 : Int) ≤ 300 + j; omega) c⟩, fun c => absurd (by show (200 : Int) ≤ 300 + j; omega) c⟩, fun c => absurd (by show (100 : Int) ≤ 300 + j; omega) c⟩
    · show z_R (300 + j - 300)
      constructor <;> omega
    · show z_CI mX8_event [z_r 0, z_i (300 + j - 300), z_i 3] sh w _
      rw [show (300 : Int) + j - 300 = j by omega]
      refine (z_LJ.rf h).go uc_event hT (fun w1 hl => ⟨_, _, rfl, rfl, ?_⟩)
      rw [z_qe_3 ⟨by omega, by omega⟩, if_neg j3]
      exact k w1 hl.1 hl.2
  · have h8 := hA.2.2.2.2.1 j (by omega) (by omega)
    refine ⟨fun _ => ⟨fun _ => ⟨fun _ => ⟨fun _ => ⟨?_, ?_⟩, fun c => absurd (by show (400 : Int) ≤ 400 + j; omega) c⟩, fun c => absurd (by show (300 : Int) ≤ 400 + j; omega) c⟩, fun c => absurd (by show (200 : Int) ≤ 400 + j; omega) c⟩, fun c => absurd (by show (100 : Int) ≤ 400 + j; omega) c⟩
    · show z_R (400 + j - 400)
      constructor <;> omega
    · show z_CI mX8_event [z_r 0, z_i (400 + j - 400), z_i 3] sh w _
      rw [show (400 : Int) + j - 400 = j by omega]
      refine (z_LJ.rf h).go uc_event hT (fun w1 hl => ?_)
      rw [z_qe_3 ⟨by omega, by omega⟩, if_neg j3]
      exact ⟨⟨by omega, by omega⟩, _, _, rfl, rfl, k w1 hl.1 hl.2⟩
/-! BEAR -/
/-- times of a kind -/
def z_tms (A : z_A) (p : Int) (y : Int → Int) : Prop := z_F A (-1) y ∧ y 0 = 0 ∧ ∀ e : Int, z_bl (A 1 0) e → z_qti A e p = y e
theorem z_tms_0 (hA : z_okg A) (hb : z_bears A) : z_tms A 0 (fun v => - z_dd A (-1) v 0) := by
  have h0 : z_bl (A 1 0) 0 := ⟨Int.le_refl _, by have := hA.2.1; omega⟩
  refine ⟨(z_F_iff hA).mp (z_DFe' (z_isd hA hb (-1)) (z_sv_A hA hb (-1)).2.1 h0), ?_, fun e he => ?_⟩
  · show - z_dd A (-1) 0 0 = 0
    have : z_dd A (-1) 0 0 = 0 := z_D0 (z_isd hA hb (-1)) h0
    omega
  · rw [z_qti, if_neg (by decide), z_qe_0 he]
theorem z_tms_1 (hA : z_okg A) (hb : z_bears A) : z_tms A 1 (fun v => z_dd A (-1) 0 v) := by
  have h0 : z_bl (A 1 0) 0 := ⟨Int.le_refl _, by have := hA.2.1; omega⟩
  refine ⟨(z_F_iff hA).mp (z_DFe (z_isd hA hb (-1)) (z_sv_A hA hb (-1)).2.1 h0), z_D0 (z_isd hA hb (-1)) h0, fun e he => ?_⟩
  rw [z_qti, if_neg (by decide), z_qe_1 he]
theorem z_mi_F (hA : z_okg A) (hb : z_bears A) {x : Int → Int} : ∀ k : Nat, (k : Int) < A 1 0 → z_F (z_mi A k) (-1) x → z_F A (-1) x
  | 0, _, h => h
  | k + 1, hk, h => z_mi_F hA hb k (by omega) ((z_mi_k hA hb (by omega)).mp h).1
theorem z_F_sh {lo : Int} {x : Int → Int} (h : z_F A lo x) (c : Int) : z_F A lo (fun v => x v + c) := by
  refine ⟨fun g g0 g1 g2 g3 => ?_, fun e e0 e1 => ?_, fun e e0 e1 e2 => ?_⟩
  · have := h.1 g g0 g1 g2 g3
    unfold z_Fg at this ⊢
    split at this
    · rename_i c5; rw [if_pos c5]; show x (A 4 g) + c - (x (A 3 g) + c) ≤ _; omega
    · rename_i c5; rw [if_neg c5]; show x (A 3 g) + c - (x (A 4 g) + c) ≤ _; omega
  · have := h.2.1 e e0 e1
    show x e + c - (x 0 + c) ≤ _ ∧ x 0 + c - (x e + c) ≤ _
    omega
  · have := h.2.2 e e0 e1 e2
    show x e + c - (x 0 + c) = _
    omega
theorem z_tms_2 (hA : z_okg A) (hb : z_bears A) : ∃ y, z_tms A 2 y := by
  have n0 := hA.2.1
  obtain ⟨h1, x, hx⟩ := z_mi_g hA hb (A 1 0 - 1).toNat (by omega)
  have e1 : z_mi A (A 1 0 - 1).toNat 1 0 = A 1 0 := z_mi_c _ (by omega)
  have hx2 := z_F_sh hx (- x 0)
  refine ⟨fun v => x v + - x 0, z_mi_F hA hb _ (by omega) hx2, by show x 0 + - x 0 = 0; omega, fun e he => ?_⟩
  rw [z_qti, if_pos (by decide), z_qm, if_pos he]
  show (if e = 0 then (0 : Int) else _) = x e + - x 0
  split
  · rename_i c; subst c; omega
  · rename_i c
    have hp := z_mi_p hA hb (k := (e - 1).toNat) (by have := he.1; have := he.2; omega)
    have hm := z_mi_m (A := A) (j := e.toNat) (A 1 0 - 1).toNat (by have := he.1; have := he.2; omega)
    rw [show (((e.toNat : Nat)) : Int) = e by have := he.1; omega] at hm
    rw [show (e - 1).toNat + 1 = e.toNat by have := he.1; omega, show (((e - 1).toNat : Nat) : Int) + 1 = e by have := he.1; omega] at hp
    have := hx.2.2 e (by have := he.1; omega) (by rw [e1]; exact he.2) (by rw [hm]; exact hp)
    omega
theorem L_bear_99 {p : Int} {y : Int → Int} (hT : z_isTG sh 0) (hA : z_okg A) (hb : z_bears A) (hy : z_tms A p y) (hQ : ∀ w', z_LJ w0 w' A H T er s → Q (some (z_i 1)) (sh, w')) :
    ∀ (k i : Nat), i + k = (A 1 0).toNat → ∀ w, z_LJ w0 w A H T er s → z_Sem mL_bear (sh.length, 0) 99 [(0, z_r 0), (1, z_i p), (2, z_i 1), (3, z_i (i : Int))] [] (sh, w) Q
  | k, i, hk, w, hl => by
    have n0 := hA.2.1
    refine t_L_bear_99 hT (hl.go uc_value hT (fun w1 hl => ⟨fun hc => hQ w1 hl, fun hc => ?_⟩))
    have hc' : ¬ A 1 0 ≤ (i : Int) := hc
    match k, hk with
    | 0, hk => exact absurd (by omega) hc'
    | k + 1, hk =>
      have he : z_bl (A 1 0) (i : Int) := ⟨by omega, by omega⟩
      have h0 : z_bl (A 1 0) 0 := ⟨Int.le_refl _, by omega⟩
      have hd := z_isd hA hb (-1)
      have hf := (z_F_iff hA).mpr hy.1
      have hy0 := hy.2.1
      have d1 := (hd 0 _ h0 he).1 y hf
      have d2 := (hd _ 0 he h0).1 y hf
      have t2 : 0 ≤ y i ∧ y i ≤ A 0 0 := by
        by_cases c : i = 0
        · rw [c, show (((0 : Nat) : Int)) = 0 from rfl, hy0]; have := hA.1; omega
        · have := hy.1.2.1 i (by omega) (by omega); omega
      refine hl.go uL_time hT (fun w2 hl => ?_)
      rw [hy.2.2 _ he]
      refine hl.go uc_event hT (fun w3 hl => ⟨by omega, hl.go uc_value hT (fun w4 hl => ⟨?_, fun hp => ⟨?_, True.intro⟩, hl.go uc_can hT (fun w5 hl => ⟨?_, fun h0 => ⟨?_, True.intro⟩, ⟨by omega, by omega⟩, ?_⟩)⟩)⟩)
      · show ¬ A 0 0 < y i
        omega
      · rw [z_qe_3 he] at hp ⊢
        by_cases c8 : A 8 (i : Int) = -1
        · rw [if_pos c8] at hp; exact absurd (by decide) hp
        · rw [if_neg c8]
          by_cases c : i = 0
          · rw [c] at c8; exact absurd hA.2.2.2.2.2 c8
          · have := hy.1.2.2 i (by omega) (by omega) c8
            omega
      · rw [z_qc, if_pos he, if_pos ⟨by omega, by omega⟩]
      · have : (i : Int) = 0 := by omega
        rw [this]; exact hy0
      · exact L_bear_99 hT hA hb hy hQ k (i + 1) (by omega) w5 hl
theorem L_bear_4 {p : Int} {y : Int → Int} (hT : z_isTG sh 0) (hA : z_okg A) (hb : z_bears A) (hy : z_tms A p y) (hQ : ∀ w', z_LJ w0 w' A H T er s → Q (some (z_i 1)) (sh, w')) :
    ∀ (k i : Nat), i + k = (A 2 0).toNat → ∀ w, z_LJ w0 w A H T er s → z_Sem mL_bear (sh.length, 0) 4 [(0, z_r 0), (1, z_i p), (2, z_i 1), (3, z_i (i : Int))] [] (sh, w) Q
  | k, i, hk, w, hl => by
    have n0 := hA.2.1
    have m0 := hA.2.2.1
    refine t_L_bear_4 hT (hl.go uc_value hT (fun w1 hl => ⟨fun hc => L_bear_99 hT hA hb hy hQ (A 1 0).toNat 0 (by omega) w1 hl, fun hc => ?_⟩))
    have hc' : ¬ A 2 0 ≤ (i : Int) := hc
    match k, hk with
    | 0, hk => exact absurd (by omega) hc'
    | k + 1, hk =>
      have hg : z_bl (A 2 0) (i : Int) := ⟨by omega, by omega⟩
      obtain ⟨g3, g4, g34, g5, g6, g7⟩ := hA.2.2.2.1 i hg.1 hg.2
      have near := z_F_near hA hy.1 g3 g4
      have near2 := z_F_near hA hy.1 g4 g3
      have hA0 := hA.1
      have next : ∀ w', z_LJ w0 w' A H T er s → z_Sem mL_bear (sh.length, 0) 85 [(0, z_r 0), (1, z_i p), (3, z_i (i : Int))] [] (sh, w') Q := fun w' hl => t_L_bear_85 hT ⟨⟨by omega, by omega⟩, L_bear_4 hT hA hb hy hQ k (i + 1) (by omega) w' hl⟩
      refine hl.go uc_gap hT (fun w2 hl => hl.go uL_time hT (fun w3 hl => hl.go uc_gap hT (fun w4 hl => hl.go uL_time hT (fun w5 hl => ⟨?_, hl.go uc_gap hT (fun w6 hl => ⟨fun _ => next w6 hl, fun h7 => hl.go uc_gap hT (fun w7 hl => ⟨fun h5 => hl.go uc_gap hT (fun w8 hl => ⟨?_, next w8 hl⟩), fun h5 => hl.go uc_gap hT (fun w8 hl => ⟨?_, next w8 hl⟩)⟩)⟩)⟩))))
      · rw [z_qg_1 hg, z_qg_0 hg, hy.2.2 _ g4, hy.2.2 _ g3]
        constructor <;> omega
      · rw [z_qg_4 hg] at h7
        rw [z_qg_2 hg] at h5
        rw [z_qg_1 hg, z_qg_0 hg, z_qg_3 hg, hy.2.2 _ g4, hy.2.2 _ g3]
        have := hy.1.1 i hg.1 hg.2 h7 (by omega)
        rw [z_Fg, if_pos h5] at this
        omega
      · rw [z_qg_4 hg] at h7
        rw [z_qg_2 hg] at h5
        rw [z_qg_1 hg, z_qg_0 hg, z_qg_3 hg, hy.2.2 _ g4, hy.2.2 _ g3]
        have := hy.1.1 i hg.1 hg.2 h7 (by omega)
        rw [z_Fg, if_neg h5] at this
        omega
theorem uL_bear (hA : z_ok A) {p : Int} (hp : 0 ≤ p ∧ p ≤ 2) : z_uc mL_bear [z_r 0, z_i p] A H T er s 1 A H T er s := fun sh w K hT h k => by
  have hy : ∃ y, z_tms A p y := by
    rcases (by omega : p = 0 ∨ p = 1 ∨ p = 2) with rfl | rfl | rfl
    · exact ⟨_, z_tms_0 hA.1 hA.2.1⟩
    · exact ⟨_, z_tms_1 hA.1 hA.2.1⟩
    · exact z_tms_2 hA.1 hA.2.1
  obtain ⟨y, hy⟩ := hy
  exact z_CIi (t_L_bear hT (L_bear_4 hT hA.1 hA.2.1 hy (fun w' hl => ⟨_, _, rfl, rfl, k w' hl.1 hl.2⟩) (A 2 0).toNat 0 (by omega) w (z_LJ.rf h)))
end ZLAW1
