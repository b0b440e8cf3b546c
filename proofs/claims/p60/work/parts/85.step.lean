/-! ONE MORE STEP IN A NET -/
theorem z_sv_add {S : z_E} {n p q l c : Int} (h : z_sv S n) (hp : z_bl n p) (hq : z_bl n q) (hl : 0 ≤ l + z_Dd S n q p) : z_sv ((p, q, l, c) :: S) n := by
  refine ⟨h.1, fun r hr => ?_, (z_Fadd (z_sv_D h) h.2.1 hp hq).mpr hl, fun x hx => h.2.2.2 x (fun r hr => hx r (List.mem_cons_of_mem _ hr))⟩
  rcases List.mem_cons.mp hr with rfl | hr
  · exact ⟨hp, hq⟩
  · exact h.2.1 r hr
theorem c_addStep {sh : List z_C} {w : z_Mm} {N : Nat} {n p q l c : Int} {S : z_E} {K : z_Mm → Prop} (hN : z_isNet sh N) (hS : z_sv S n) (hd : z_bd w N n S) (hp : z_bl n p) (hq : z_bl n q) (hR : -999 ≤ l ∧ l ≤ 999) (hl : 0 ≤ l + z_Dd S n q p)
    (k : ∀ w', z_bd w' N n ((p, q, l, c) :: S) → z_frW w w' (N + 5) → K w') : z_CV mX2_addStep [z_r N, z_i p, z_i q, z_i l] sh w K := by
  have hn := hS.1
  have hW : z_IsD (z_sc S) n (z_mx w (N + 5)) := hd.2
  have ra : ∀ a b, z_bl n a → z_bl n b → -64000 ≤ z_mx w (N + 5) a b ∧ z_mx w (N + 5) a b ≤ 64000 := fun a b ha hb => by
    have h1 : 64 * z_Dd S n a b ≤ z_mx w (N + 5) a b ∧ z_mx w (N + 5) a b ≤ 64 * z_Dd S n a b + (n - 1) := z_bdW hS hd ha hb
    have h2 := z_D_R hS ha hb
    omega
  have ring : 0 ≤ 64 * l + 1 + z_mx w (N + 5) q p := by
    have h1 : 64 * z_Dd S n q p ≤ z_mx w (N + 5) q p := (z_bdW hS hd hq hp).1
    omega
  have fw : ∀ v : z_Mm, f_X2_weightOf v l = 64 * l + 1 := fun v => by
    show l * 64 + 1 = _
    omega
  have p0 := hp.1
  have p1 := hp.2
  have q0 := hq.1
  have q1 := hq.2
  refine z_CVi (t_X2_addStep hN ?_)
  refine z_for (n := n) (i0 := 0) (fun i v => z_Sem mX2_addStep (sh.length, 0) 3 [(0, z_r N), (1, z_i p), (2, z_i q), (3, z_i l), (4, z_i i)] [] (sh, v) _)
    (fun i v => z_frW w v (N + 5) ∧ ∀ a b, z_bl n a → z_bl n b → z_mx v (N + 5) a b = if a < i then min (z_mx w (N + 5) a b) (z_mx w (N + 5) a p + (64 * l + 1) + z_mx w (N + 5) q b) else z_mx w (N + 5) a b) (by omega)
    ⟨fun _ _ => rfl, fun a b ha _ => by rw [if_neg (by have := ha.1; omega)]⟩ ?_ ?_
  · rintro v ⟨vf, vm⟩
    have v6 : v N 6 = n := by rw [vf N (by omega)]; exact hd.1
    refine t_X2_addStep_3 hN ⟨fun _ => ⟨v, rfl, rfl, k v ⟨v6, ?_⟩ vf⟩, fun cc => absurd (Int.le_of_eq v6) cc⟩
    exact z_IsD_eqv (z_Dadd (c := c) hW (z_sc_wf hS.2.1) hp hq ring) (fun a b ha hb => by rw [vm a b ha hb, if_pos ha.2])
  · rintro i v i0 i1 ⟨vf, vm⟩ kk
    have v6 : v N 6 = n := by rw [vf N (by omega)]; exact hd.1
    have hi : z_bl n i := ⟨i0, i1⟩
    have e1 : z_mx v (N + 5) i p = z_mx w (N + 5) i p := by rw [vm i p hi hp, if_neg (by omega)]
    have r1 := ra i p hi hp
    refine t_X2_addStep_3 hN ⟨fun cc => absurd cc (by rw [v6]; omega), fun _ => ?_⟩
    rw [show v (N + 5) (i * 10 + p) = z_mx v (N + 5) i p from rfl, e1, fw v]
    refine ⟨⟨by omega, by omega⟩, ⟨by omega, by omega⟩, ⟨by omega, by omega⟩, ⟨⟨by omega, by omega⟩, ⟨by omega, by omega⟩, True.intro⟩, ⟨by omega, by omega⟩, fun y7 e7 => ?_⟩
    refine z_for (n := n) (i0 := 0) (fun j t => z_Sem mX2_addStep (sh.length, 0) 34 [(0, z_r N), (1, z_i p), (2, z_i q), (3, z_i l), (4, z_i i), (5, z_i y7), (6, z_i j)] [] (sh, t) _)
      (fun j t => z_frW w t (N + 5) ∧ ∀ a b, z_bl n a → z_bl n b → z_mx t (N + 5) a b = if a < i ∨ (a = i ∧ b < j) then min (z_mx w (N + 5) a b) (z_mx w (N + 5) a p + (64 * l + 1) + z_mx w (N + 5) q b) else z_mx w (N + 5) a b) (by omega)
      ⟨vf, fun a b ha hb => by
        rw [vm a b ha hb]
        by_cases cc : a < i
        · rw [if_pos cc, if_pos (Or.inl cc)]
        · rw [if_neg cc, if_neg (by have := hb.1; omega)]⟩ ?_ ?_
    · rintro t ⟨tf, tm⟩
      have t6 : t N 6 = n := by rw [tf N (by omega)]; exact hd.1
      refine t_X2_addStep_34 hN ⟨fun _ => ⟨⟨by omega, by omega⟩, kk t ⟨tf, fun a b ha hb => ?_⟩⟩, fun cc => absurd (Int.le_of_eq t6) cc⟩
      rw [tm a b ha hb]
      by_cases cc : a < i + 1
      · rw [if_pos cc, if_pos (by have := hb.2; omega)]
      · rw [if_neg cc, if_neg (by omega)]
    · rintro j t j0 j1 ⟨tf, tm⟩ k2
      have t6 : t N 6 = n := by rw [tf N (by omega)]; exact hd.1
      have hj : z_bl n j := ⟨j0, j1⟩
      have b1 := ra q j hq hj
      have b2 := ra i j hi hj
      have e2 : z_mx t (N + 5) q j = z_mx w (N + 5) q j := by
        rw [tm q j hq hj]
        split
        · omega
        · rfl
      have e3 : z_mx t (N + 5) i j = z_mx w (N + 5) i j := by rw [tm i j hi hj, if_neg (by omega)]
      refine t_X2_addStep_34 hN ⟨fun cc => absurd cc (by rw [t6]; omega), fun _ => ?_⟩
      rw [show t (N + 5) (q * 10 + j) = z_mx t (N + 5) q j from rfl, e2, show t (N + 5) (i * 10 + j) = z_mx t (N + 5) i j from rfl, e3]
      refine ⟨⟨by omega, by omega⟩, ⟨by omega, by omega⟩, ⟨by omega, by omega⟩, ⟨by omega, by omega⟩, fun z7 g7 => ⟨⟨by omega, by omega⟩, ⟨by omega, by omega⟩, ⟨by omega, by omega⟩, ⟨by omega, by omega⟩, fun w11 e11 => ⟨⟨by omega, by omega⟩, k2 w11 ⟨tf.trans (by rw [e11]; exact z_frWW), fun a b ha hb => ?_⟩⟩⟩⟩
      rw [e11, z_fmin, z_mxW ⟨i0, by omega⟩ ⟨j0, by omega⟩ ⟨ha.1, by have := ha.2; omega⟩ ⟨hb.1, by have := hb.2; omega⟩]
      by_cases e : a = i ∧ b = j
      · obtain ⟨rfl, rfl⟩ := e
        rw [if_pos ⟨rfl, rfl⟩, if_pos (by omega), g7, e7]
      · rw [if_neg e, tm a b ha hb]
        by_cases cc : a < i ∨ (a = i ∧ b < j)
        · rw [if_pos cc, if_pos (by omega)]
        · rw [if_neg cc, if_neg (by omega)]
/-- a pin as two steps -/
def z_S2p (S : z_E) (e t : Int) : z_E := (e, 0, -t, 0) :: (0, e, t, 0) :: S
theorem z_S2p_F {S : z_E} {e t : Int} {x : Int → Int} : z_Fe (z_S2p S e t) x ↔ (z_Fe S x ∧ x e - x 0 = t) := by
  unfold z_Fe z_S2p
  constructor
  · intro h
    have h1 := h (e, 0, -t, 0) List.mem_cons_self
    have h2 := h (0, e, t, 0) (List.mem_cons_of_mem _ List.mem_cons_self)
    simp only at h1 h2
    exact ⟨fun r hr => h r (List.mem_cons_of_mem _ (List.mem_cons_of_mem _ hr)), by omega⟩
  · rintro ⟨h, h1⟩ r hr
    rcases List.mem_cons.mp hr with rfl | hr
    · show x 0 - x e ≤ -t
      omega
    · rcases List.mem_cons.mp hr with rfl | hr
      · show x e - x 0 ≤ t
        omega
      · exact h r hr
theorem z_S2p_1 {S : z_E} {n e t : Int} (hS : z_sv S n) (he : z_bl n e) (h1 : - z_Dd S n e 0 ≤ t) : z_sv ((0, e, t, 0) :: S) n := z_sv_add hS ⟨Int.le_refl _, by have := hS.1; omega⟩ he (by omega)
theorem z_S2p_2 {S : z_E} {n e t : Int} (hS : z_sv S n) (he : z_bl n e) (h1 : - z_Dd S n e 0 ≤ t) (h2 : t ≤ z_Dd S n 0 e) : 0 ≤ -t + z_Dd ((0, e, t, 0) :: S) n 0 e := by
  have h0 : z_bl n 0 := ⟨Int.le_refl _, by have := hS.1; omega⟩
  have hd := z_sv_D hS
  have d1 := z_Dadd (c := 0) hd hS.2.1 h0 he (l := t) (by omega)
  have d2 : z_Dd ((0, e, t, 0) :: S) n 0 e = min (z_Dd S n 0 e) (z_Dd S n 0 0 + t + z_Dd S n e e) := z_IsD_uniq (z_sv_D (z_S2p_1 hS he h1)) d1 h0 he
  have d3 := z_D0 hd h0
  have d4 := z_D0 hd he
  rw [d2]
  omega
theorem z_S2p_sv {S : z_E} {n e t : Int} (hS : z_sv S n) (he : z_bl n e) (h1 : - z_Dd S n e 0 ≤ t) (h2 : t ≤ z_Dd S n 0 e) : z_sv (z_S2p S e t) n :=
  z_sv_add (z_S2p_1 hS he h1) he ⟨Int.le_refl _, by have := hS.1; omega⟩ (z_S2p_2 hS he h1 h2)
theorem c_addPin {sh : List z_C} {w : z_Mm} {N : Nat} {n e t : Int} {S : z_E} {K : z_Mm → Prop} (hN : z_isNet sh N) (hS : z_sv S n) (hd : z_bd w N n S) (he : z_bl n e) (h1 : - z_Dd S n e 0 ≤ t) (h2 : t ≤ z_Dd S n 0 e)
    (k : ∀ w', z_bd w' N n (z_S2p S e t) → z_frW w w' (N + 5) → K w') : z_CV mX2_addPin [z_r N, z_i e, z_i t] sh w K := by
  have h0 : z_bl n 0 := ⟨Int.le_refl _, by have := hS.1; omega⟩
  have r1 := z_D_R hS he h0
  have r2 := z_D_R hS h0 he
  refine z_CVi (t_X2_addPin hN ?_)
  refine c_addStep (c := 0) hN hS hd h0 he ⟨by omega, by omega⟩ (by omega) (fun w1 d1 f1 => ⟨⟨by omega, by omega⟩, ?_⟩)
  exact c_addStep (c := 0) hN (z_S2p_1 hS he h1) d1 he h0 ⟨by omega, by omega⟩ (z_S2p_2 hS he h1 h2) (fun w2 d2 f2 => ⟨w2, rfl, rfl, k w2 d2 (f1.trans f2)⟩)
