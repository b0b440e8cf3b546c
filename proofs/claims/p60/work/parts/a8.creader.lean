/-! THE CLASS READS GAPS AND PINS -/
theorem z_nmd_R {A : z_A} {v : Int} (h : 1 ≤ A 1 0) : z_nmd A v = -2 ∨ (0 ≤ z_nmd A v ∧ z_nmd A v < A 1 0) := by
  have hf := z_fi1_is (p := fun e => A 9 e = v) (n := A 1 0) (by omega)
  have en : z_nmd A v = z_fi1 (fun e => A 9 e = v) (A 1 0) := rfl
  rcases hf with ⟨x, -⟩ | ⟨x, y, -⟩
  · exact Or.inl x
  · exact Or.inr ⟨x, y⟩
theorem z_F_add0 {A : z_A} {one oth kd n : Int} {x : Int → Int} : z_F (z_add A one oth kd n 0) (-1) x ↔ z_F A (-1) x := by
  have u : ∀ (ch : Nat) (j : Int), (ch < 2 ∨ 7 < ch) → z_add A one oth kd n 0 ch j = A ch j := fun ch j h => z_add_lt h
  obtain ⟨-, -, -, -, n7⟩ := z_add_new (A := A) (one := one) (oth := oth) (kd := kd) (n := n) (on := 0)
  have ug : ∀ g : Int, g ≠ A 2 0 → (z_Fg (z_add A one oth kd n 0) g x ↔ z_Fg A g x) := fun g hg => by
    unfold z_Fg
    rw [z_add_old (by omega) hg, z_add_old (by omega) hg, z_add_old (by omega) hg, z_add_old (by omega) hg]
  unfold z_F
  rw [z_add_2, u 1 0 (by omega), u 0 0 (by omega)]
  constructor
  · rintro ⟨h1, h2, h3⟩
    refine ⟨fun g g0 g1 g2 g3 => (ug g (by omega)).mp (h1 g g0 (by omega) (by rw [z_add_old (by omega) (by omega)]; exact g2) g3), h2, fun e e0 e1 e2 => ?_⟩
    have := h3 e e0 e1 (by rw [u 8 e (by omega)]; exact e2)
    rw [u 8 e (by omega)] at this
    exact this
  · rintro ⟨h1, h2, h3⟩
    refine ⟨fun g g0 g1 g2 g3 => ?_, h2, fun e e0 e1 e2 => ?_⟩
    · by_cases c : g = A 2 0
      · rw [c, n7] at g2
        exact absurd rfl g2
      · rw [z_add_old (by omega) c] at g2
        exact (ug g c).mpr (h1 g g0 (by omega) g2 g3)
    · rw [u 8 e (by omega)] at e2 ⊢
      exact h3 e e0 e1 e2
noncomputable def z_pg6 (T : z_T) (A : z_A) (one oth kd n on : Int) (τ : z_K4) : z_P3 := @ite _ (τ.2.2.1 = 3 ∧ (on = 0 ∨ z_bears (z_add A one oth kd n 1))) (Classical.propDecidable _) (1, z_add A one oth kd n on, z_nx T τ) (0, A, τ)
noncomputable def z_pg4 (T : z_T) (A : z_A) (one oth kd : Int) (τ : z_K4) : z_P3 := if (z_nx T τ).2.2.1 = 2 then @ite _ (z_isk (z_nx T (z_nx T τ)) 15558) (Classical.propDecidable _) (z_pg6 T A one oth kd (z_nx T τ).2.2.2 0 (z_nx T (z_nx T (z_nx T τ)))) (z_pg6 T A one oth kd (z_nx T τ).2.2.2 1 (z_nx T (z_nx T τ))) else (0, A, z_nx T τ)
noncomputable def z_kdv (τ : z_K4) : Int := @ite _ (z_isk τ 441972) (Classical.propDecidable _) 0 1
noncomputable def z_pgp (T : z_T) (A : z_A) (τ : z_K4) : z_P3 :=
  if A 2 0 = 24 then (0, A, τ) else if (z_nx T τ).2.2.1 = 1 ∧ z_nmd A (z_nx T τ).2.2.2 ≠ -2 then
    (if (z_nx T (z_nx T τ)).2.2.1 = 1 ∧ z_nmd A (z_nx T (z_nx T τ)).2.2.2 ≠ -2 ∧ z_nmd A (z_nx T (z_nx T τ)).2.2.2 ≠ z_nmd A (z_nx T τ).2.2.2 then
      @ite _ (z_isk (z_nx T (z_nx T (z_nx T τ))) 441972 ∨ z_isk (z_nx T (z_nx T (z_nx T τ))) 12748404) (Classical.propDecidable _) (z_pg4 T A (z_nmd A (z_nx T τ).2.2.2) (z_nmd A (z_nx T (z_nx T τ)).2.2.2) (z_kdv (z_nx T (z_nx T (z_nx T τ)))) (z_nx T (z_nx T (z_nx T τ)))) (0, A, z_nx T (z_nx T (z_nx T τ)))
    else (0, A, z_nx T (z_nx T τ))) else (0, A, z_nx T τ)
/-- the reader's net tells a plan's bounds -/
def z_nbN (w : z_Mm) (A : z_A) : Prop := ∃ S, z_sv S (A 1 0) ∧ (∀ x, z_Fe S x ↔ z_F A (-1) x) ∧ z_bd w 153 (A 1 0) S
theorem z_nbN.fr {w w' : z_Mm} {A : z_A} (h : z_nbN w A) (h1 : w' 153 = w 153) (h2 : w' 158 = w 158) : z_nbN w' A := by
  obtain ⟨S, a, b, c⟩ := h
  exact ⟨S, a, b, c.fr h1 h2⟩
def z_pst3 (w : z_Mm) (r : z_P3) : Prop := z_ps1 w r.2.2.1 ∧ (r.1 ≠ 0 → z_ctk w r.2.2 ∧ z_pr w 142 r.2.1 ∧ z_nbN w r.2.1)
theorem c_readGap {sh : List z_C} {w : z_Mm} {A : z_A} {T : z_T} {τ : z_K4} {K : Int → z_Mm → Prop} (hT : z_isTG sh 0) (h : z_tc w T) (hc : z_ctk w τ) (ht : z_tkk T τ) (hA : z_okg A) (hb : z_bears A) (hp : z_pr w 142 A) (hn : z_nbN w A)
    (k : ∀ w', z_pst3 w' (z_pgp T A τ) → z_f13 w w' → K (z_pgp T A τ).1 w') : z_CI mX4_readGap [z_r 139] sh w K := by
  have hR : z_isRea sh 139 := hT.2.2.2.2.2.2.1
  obtain ⟨-, -, -, -, s4, -⟩ := z_skeys
  have r1 := hA.2.1
  have r2 := hA.2.2.1
  have p11 : w 142 11 = A 2 0 := hp.1.2.2.1
  have ht1 := z_tkk_nx ht
  have ht2 := z_tkk_nx ht1
  have ht3 := z_tkk_nx ht2
  have ht4 := z_tkk_nx ht3
  have ht5 := z_tkk_nx ht4
  have ht6 := z_tkk_nx ht5
  unfold z_pgp at k
  refine z_CIi (t_X4_readGap hR ⟨fun c => ?_, fun c => ?_⟩)
  · rw [if_pos (by omega)] at k
    exact ⟨_, _, rfl, rfl, k w ⟨⟨hc.1, hp.2.2.2⟩, fun c => absurd rfl c⟩ (fun _ _ _ => rfl)⟩
  rw [if_neg (by omega)] at k
  refine c_adv hT h hc ht (fun w2 c2 f2 => ?_)
  have h2 := h.f139 f2
  have p2 := hp.f139 hA f2
  refine c_eventHere hT h2 c2 ht1 hA p2 (fun q1 q2 => ⟨fun d => ?_, fun _ => ?_⟩) (fun q => ⟨fun _ => ?_, fun d => absurd rfl d⟩)
  · have := z_nmd_R (A := A) (v := (z_nx T τ).2.2.2) r1.1
    omega
  rotate_left 1
  · rw [if_neg q] at k
    exact ⟨_, _, rfl, rfl, k w2 ⟨⟨c2.1, p2.2.2.2⟩, fun c => absurd rfl c⟩ f2.f13⟩
  rw [if_pos ⟨q1, q2⟩] at k
  have b1 : z_bl (A 1 0) (z_nmd A (z_nx T τ).2.2.2) := by rcases z_nmd_R (A := A) (v := (z_nx T τ).2.2.2) r1.1 with x | x; exact absurd x q2; exact x
  refine c_adv hT h2 c2 ht1 (fun w6 c6 f6 => ?_)
  have h6 := h2.f139 f6
  have p6 := p2.f139 hA f6
  have g6 : z_f13 w w6 := f2.f13.trans f6.f13
  have bad2 : ¬ ((z_nx T (z_nx T τ)).2.2.1 = 1 ∧ z_nmd A (z_nx T (z_nx T τ)).2.2.2 ≠ -2 ∧ z_nmd A (z_nx T (z_nx T τ)).2.2.2 ≠ z_nmd A (z_nx T τ).2.2.2) → K 0 w6 := fun q => by
    rw [if_neg q] at k
    exact k w6 ⟨⟨c6.1, p6.2.2.2⟩, fun c => absurd rfl c⟩ g6
  refine c_eventHere hT h6 c6 ht2 hA p6 (fun q3 q4 => ⟨fun d => ?_, fun _ => ⟨fun d => ⟨_, _, rfl, rfl, bad2 (fun q => q.2.2 d)⟩, fun q5 => ?_⟩⟩) (fun q => ⟨fun _ => ⟨_, _, rfl, rfl, bad2 (fun c => q ⟨c.1, c.2.1⟩)⟩, fun d => absurd rfl d⟩)
  · have := z_nmd_R (A := A) (v := (z_nx T (z_nx T τ)).2.2.2) r1.1
    omega
  rw [if_pos ⟨q3, q4, q5⟩] at k
  have b2 : z_bl (A 1 0) (z_nmd A (z_nx T (z_nx T τ)).2.2.2) := by rcases z_nmd_R (A := A) (v := (z_nx T (z_nx T τ)).2.2.2) r1.1 with x | x; exact absurd x q4; exact x
  refine c_adv hT h6 c6 ht2 (fun w11 c11 f11 => ?_)
  have h11 := h6.f139 f11
  have p11' := p6.f139 hA f11
  have g11 : z_f13 w w11 := g6.trans f11.f13
  have rest : ∀ kd : Int, (kd = 0 ∨ kd = 1) → (∀ w', z_pst3 w' (z_pg4 T A (z_nmd A (z_nx T τ).2.2.2) (z_nmd A (z_nx T (z_nx T τ)).2.2.2) kd (z_nx T (z_nx T (z_nx T τ)))) → z_f13 w w' → K (z_pg4 T A (z_nmd A (z_nx T τ).2.2.2) (z_nmd A (z_nx T (z_nx T τ)).2.2.2) kd (z_nx T (z_nx T (z_nx T τ)))).1 w') →
      z_CV mX4_next [z_r 139] sh w11 (fun w15 => z_CI mX4_numberHere [z_r 139] sh w15 (fun y17 w16 => ((y17 = (-1) → ∃ (x : Int) (w' : z_Mm), some (z_i 0) = some (z_i x) ∧ ((sh, w16) : z_S) = (sh, w') ∧ K x w') ∧ (¬ y17 = (-1) → z_CV mX4_next [z_r 139] sh w16 (fun w19 => z_CI mX4_takeWord [z_r 139, z_r (1001 + 4)] sh w19 (fun y21 w20 => ∀ y26 : Int, y26 = (if y21 = 0 then 1 else 0) → (((w20 139 3) = 4 → ((y26 = 0 → z_CI mX3_addGap [z_r 142, z_i (z_nmd A (z_nx T τ).2.2.2), z_i (z_nmd A (z_nx T (z_nx T τ)).2.2.2), z_i kd, z_i y17, z_i y26] sh w20 (fun y30 w29 => ((y26 = 0 → z_CV mX4_next [z_r 139] sh w29 (fun w32 => ∃ (x : Int) (w' : z_Mm), some (z_i 1) = some (z_i x) ∧ ((sh, w32) : z_S) = (sh, w') ∧ K x w')) ∧ (¬ y26 = 0 → z_CV mX2_addGapStep [z_r 153, z_i (z_nmd A (z_nx T τ).2.2.2), z_i (z_nmd A (z_nx T (z_nx T τ)).2.2.2), z_i kd, z_i y17] sh w29 (fun w33 => z_CV mX4_next [z_r 139] sh w33 (fun w34 => ∃ (x : Int) (w' : z_Mm), some (z_i 1) = some (z_i x) ∧ ((sh, w34) : z_S) = (sh, w') ∧ K x w')))))) ∧ (¬ y26 = 0 → (s_X2_leastRing w20 153 (z_nmd A (z_nx T τ).2.2.2) (z_nmd A (z_nx T (z_nx T τ)).2.2.2) kd y17) ∧ ((0 ≤ (f_X2_leastRing w20 153 (z_nmd A (z_nx T τ).2.2.2) (z_nmd A (z_nx T (z_nx T τ)).2.2.2) kd y17) → z_CI mX3_addGap [z_r 142, z_i (z_nmd A (z_nx T τ).2.2.2), z_i (z_nmd A (z_nx T (z_nx T τ)).2.2.2), z_i kd, z_i y17, z_i y26] sh w20 (fun y38 w37 => ((y26 = 0 → z_CV mX4_next [z_r 139] sh w37 (fun w40 => ∃ (x : Int) (w' : z_Mm), some (z_i 1) = some (z_i x) ∧ ((sh, w40) : z_S) = (sh, w') ∧ K x w')) ∧ (¬ y26 = 0 → z_CV mX2_addGapStep [z_r 153, z_i (z_nmd A (z_nx T τ).2.2.2), z_i (z_nmd A (z_nx T (z_nx T τ)).2.2.2), z_i kd, z_i y17] sh w37 (fun w41 => z_CV mX4_next [z_r 139] sh w41 (fun w42 => ∃ (x : Int) (w' : z_Mm), some (z_i 1) = some (z_i x) ∧ ((sh, w42) : z_S) = (sh, w') ∧ K x w')))))) ∧ (¬ 0 ≤ (f_X2_leastRing w20 153 (z_nmd A (z_nx T τ).2.2.2) (z_nmd A (z_nx T (z_nx T τ)).2.2.2) kd y17) → ∃ (x : Int) (w' : z_Mm), some (z_i 0) = some (z_i x) ∧ ((sh, w20) : z_S) = (sh, w') ∧ K x w'))))) ∧ (¬ (w20 139 3) = 4 → ∃ (x : Int) (w' : z_Mm), some (z_i 0) = some (z_i x) ∧ ((sh, w20) : z_S) = (sh, w') ∧ K x w')))))))) := by
    intro kd hkd kk
    generalize z_nmd A (z_nx T τ).2.2.2 = one at b1 q5 kk ⊢
    generalize z_nmd A (z_nx T (z_nx T τ)).2.2.2 = oth at b2 q5 kk ⊢
    unfold z_pg4 at kk
    refine c_adv hT h11 c11 ht3 (fun w15 c15 f15 => ?_)
    have h15 := h11.f139 f15
    have p15 := p11'.f139 hA f15
    have g15 : z_f13 w w15 := g11.trans f15.f13
    refine c_numberHere hT h15 c15 ht4 ?_
    by_cases q : (z_nx T (z_nx T (z_nx T (z_nx T τ)))).2.2.1 = 2
    rotate_left 1
    · rw [if_neg q] at kk ⊢
      exact ⟨fun _ => ⟨_, _, rfl, rfl, kk w15 ⟨⟨c15.1, p15.2.2.2⟩, fun c => absurd rfl c⟩ g15⟩, fun d => absurd rfl d⟩
    rw [if_pos q] at kk ⊢
    obtain ⟨-, -, v0, v1⟩ := ht4.2.2.2 q
    generalize ev : (z_nx T (z_nx T (z_nx T (z_nx T τ)))).2.2.2 = n at v0 v1 kk ⊢
    refine ⟨fun d => absurd d (by omega), fun _ => ?_⟩
    refine c_adv hT h15 c15 ht4 (fun w19 c19 f19 => ?_)
    have h19 := h15.f139 f19
    have p19 := p15.f139 hA f19
    have g19 : z_f13 w w19 := g15.trans f19.f13
    have tk3 : ∀ (u : z_Mm) (τ' : z_K4), z_ctk u τ' → z_tkk T τ' → (u 139 3 = 4 ↔ τ'.2.2.1 = 3) := fun u τ' cu tu => by
      have := tu.2.1
      rw [cu.2.2]
      (repeat' split) <;> omega
    refine c_takeWord hT (s := 4) (by omega) h19 c19 ht5 (fun e w20 c20 f20 y26 e26 => ?_) (fun e y26 e26 => ?_)
    · have ey : y26 = 0 := e26.trans (if_neg (by decide))
      subst ey
      rw [if_pos (s4 ▸ e)] at kk
      have h20 := h19.f139 f20
      have p20 := p19.f139 hA f20
      have g20 : z_f13 w w20 := g19.trans f20.f13
      have t3 := tk3 w20 _ c20 ht6
      unfold z_pg6 at kk
      refine ⟨fun d => ⟨fun _ => ?_, fun d => absurd rfl d⟩, fun d => ?_⟩
      · rw [if_pos ⟨t3.mp d, Or.inl rfl⟩] at kk
        refine c_addGap hR.2.2.1 hA (by omega) (by omega) p20 (fun w29 p29 f29 => ⟨fun _ => ?_, fun d => absurd rfl d⟩)
        have c29 : z_ctk w29 (z_nx T (z_nx T (z_nx T (z_nx T (z_nx T (z_nx T τ)))))) := by unfold z_ctk; rw [f29 139 (by omega)]; exact c20
        have h29 := h20.fr (f29 140 (by omega)) (f29 141 (by omega))
        have g29 : z_f13 w w29 := g20.trans (fun a a1 a2 => f29 a (by omega))
        have hB := z_okg_add (one := one) (oth := oth) (kd := kd) (n := n) (on := 0) hA (by omega) b1 b2 (Ne.symm q5) (by omega) ⟨v0, v1⟩ (by omega)
        refine c_adv hT h29 c29 ht6 (fun w32 c32 f32 => ⟨_, _, rfl, rfl, kk w32 ⟨⟨c32.1, (p29.f139 hB f32).2.2.2⟩, fun _ => ⟨c32, p29.f139 hB f32, ?_⟩⟩ (g29.trans f32.f13)⟩)
        obtain ⟨S, a, b, d'⟩ := hn
        have o1 : z_add A one oth kd n 0 1 0 = A 1 0 := z_add_lt (by omega)
        show z_nbN w32 (z_add A one oth kd n 0)
        refine ⟨S, by rw [o1]; exact a, fun x => by rw [b, z_F_add0], ?_⟩
        rw [o1]
        refine d'.fr ?_ ?_
        · rw [f32 153 (by omega), f29 153 (by omega), f20 153 (by omega), f19 153 (by omega), f15 153 (by omega), f11 153 (by omega), f6 153 (by omega), f2 153 (by omega)]
        · show w32 158 = w 158
          rw [f32 158 (by omega), f29 158 (by omega), f20 158 (by omega), f19 158 (by omega), f15 158 (by omega), f11 158 (by omega), f6 158 (by omega), f2 158 (by omega)]
      · rw [if_neg (fun c => d (t3.mpr c.1))] at kk
        exact ⟨_, _, rfl, rfl, kk w20 ⟨⟨c20.1, p20.2.2.2⟩, fun c => absurd rfl c⟩ g20⟩
    · have ey : y26 = 1 := e26.trans (if_pos rfl)
      subst ey
      rw [if_neg (s4 ▸ e)] at kk
      have t3 := tk3 w19 _ c19 ht5
      obtain ⟨S, a, b, d'⟩ := hn
      have n153 : w19 153 = w 153 := by rw [f19 153 (by omega), f15 153 (by omega), f11 153 (by omega), f6 153 (by omega), f2 153 (by omega)]
      have n158 : w19 158 = w 158 := by rw [f19 158 (by omega), f15 158 (by omega), f11 158 (by omega), f6 158 (by omega), f2 158 (by omega)]
      have d19 : z_bd w19 153 (A 1 0) S := d'.fr n153 n158
      have el : f_X2_leastRing w19 153 one oth kd n = z_lr A (-1) one oth kd n := by
        rw [z_flr a d19 b1 b2]
        show (if kd = 0 then n else -n) + z_Dd S (A 1 0) (z_bg kd oth one) (z_bg kd one oth) = (if kd = 0 then n else -n) + z_dd A (-1) (z_bg kd oth one) (z_bg kd one oth)
        rw [z_dd_S hA hb a b (z_bg_bl b2 b1) (z_bg_bl b1 b2)]
      have hti := z_tell_iff (kd := kd) (n := n) hA hb b1 b2
      unfold z_pg6 at kk
      refine ⟨fun d => ⟨fun d => absurd d (by decide), fun _ => ?_⟩, fun d => ?_⟩
      · rw [el]
        refine ⟨z_slr a d19 b1 b2 ⟨v0, v1⟩, fun q6 => ?_, fun q6 => ?_⟩
        · rw [if_pos ⟨t3.mp d, Or.inr (hti.mpr q6)⟩] at kk
          refine c_addGap hR.2.2.1 hA (by omega) (by omega) p19 (fun w29 p29 f29 => ⟨fun d => absurd d (by decide), fun _ => ?_⟩)
          have c29 : z_ctk w29 (z_nx T (z_nx T (z_nx T (z_nx T (z_nx T τ))))) := by unfold z_ctk; rw [f29 139 (by omega)]; exact c19
          have h29 := h19.fr (f29 140 (by omega)) (f29 141 (by omega))
          have g29 : z_f13 w w29 := g19.trans (fun a a1 a2 => f29 a (by omega))
          have hB := z_okg_add (one := one) (oth := oth) (kd := kd) (n := n) (on := 1) hA (by omega) b1 b2 (Ne.symm q5) (by omega) ⟨v0, v1⟩ (by omega)
          have d29 : z_bd w29 153 (A 1 0) S := d19.fr (f29 153 (by omega)) (f29 158 (by omega))
          have sL : s_X8_stepLength w29 kd n := ⟨fun _ => ⟨⟨by omega, by omega⟩, True.intro⟩, True.intro⟩
          have hN : z_isNet sh 153 := hR.2.2.2
          have h3 : (-999 : Int) ≤ (if kd = 0 then n else -n) ∧ (if kd = 0 then n else -n) ≤ 999 := by split <;> omega
          have h4 : 0 ≤ (if kd = 0 then n else -n) + z_Dd S (A 1 0) (z_bg kd oth one) (z_bg kd one oth) := by
            rw [z_dd_S hA hb a b (z_bg_bl b2 b1) (z_bg_bl b1 b2)]
            exact q6
          refine z_CVi (t_X2_addGapStep hN ⟨sL, ?_⟩)
          refine c_addStep (p := z_bg kd one oth) (q := z_bg kd oth one) (l := if kd = 0 then n else -n) (c := 0) hN a d29 (z_bg_bl b1 b2) (z_bg_bl b2 b1) h3 h4 (fun w33 d33 f33 => ⟨_, rfl, rfl, ?_⟩)
          have c33 : z_ctk w33 (z_nx T (z_nx T (z_nx T (z_nx T (z_nx T τ))))) := by unfold z_ctk; rw [f33 139 (by omega)]; exact c29
          have h33 := h29.fr (f33 140 (by omega)) (f33 141 (by omega))
          have p33 := p29.fr hB (fun a a0 a1 => f33 a (by omega))
          have g33 : z_f13 w w33 := g29.trans (fun a a1 a2 => f33 a (by omega))
          refine c_adv hT h33 c33 ht5 (fun w34 c34 f34 => ⟨_, _, rfl, rfl, kk w34 ⟨⟨c34.1, (p33.f139 hB f34).2.2.2⟩, fun _ => ⟨c34, p33.f139 hB f34, ?_⟩⟩ (g33.trans f34.f13)⟩)
          have o1 : z_add A one oth kd n 1 1 0 = A 1 0 := z_add_lt (by omega)
          show z_nbN w34 (z_add A one oth kd n 1)
          refine ⟨_, by rw [o1]; exact z_sv_add (p := z_bg kd one oth) (q := z_bg kd oth one) (l := if kd = 0 then n else -n) (c := 0) a (z_bg_bl b1 b2) (z_bg_bl b2 b1) h4, fun x => ?_, ?_⟩
          · rw [z_F_add r2.1, ← b]
            unfold z_Fe
            constructor
            · intro hq
              exact ⟨fun r hr => hq r (List.mem_cons_of_mem _ hr), hq _ List.mem_cons_self⟩
            · rintro ⟨hq, hq2⟩ r hr
              rcases List.mem_cons.mp hr with rfl | hr
              · exact hq2
              · exact hq r hr
          · rw [o1]
            exact d33.fr (f34 153 (by omega)) (f34 158 (by omega))
        · rw [if_neg (fun c => q6 (hti.mp (c.2.resolve_left (by decide))))] at kk
          exact ⟨_, _, rfl, rfl, kk w19 ⟨⟨c19.1, p19.2.2.2⟩, fun c => absurd rfl c⟩ g19⟩
      · rw [if_neg (fun c => d (t3.mpr c.1))] at kk
        exact ⟨_, _, rfl, rfl, kk w19 ⟨⟨c19.1, p19.2.2.2⟩, fun c => absurd rfl c⟩ g19⟩
  refine c_kindHere hT h11 c11 ht3 (fun e => ⟨fun d => absurd d (by decide), fun _ => ?_⟩) (fun e => ⟨fun d => absurd d (by decide), fun _ => ?_⟩) (fun e1 e2 => ⟨fun _ => ?_, fun d => absurd rfl d⟩)
  · rw [if_pos (Or.inl e)] at k
    have ek : z_kdv (z_nx T (z_nx T (z_nx T τ))) = 0 := if_pos e
    rw [ek] at k
    exact rest 0 (Or.inl rfl) k
  · rw [if_pos (Or.inr e)] at k
    have ek : z_kdv (z_nx T (z_nx T (z_nx T τ))) = 1 := if_neg (fun c => by have := c.2; have := e.2; omega)
    rw [ek] at k
    exact rest 1 (Or.inr rfl) k
  · rw [if_neg (fun c => c.elim e1 e2)] at k
    exact ⟨_, _, rfl, rfl, k w11 ⟨⟨c11.1, p11'.2.2.2⟩, fun c => absurd rfl c⟩ g11⟩
/-- PIN -/
noncomputable def z_ppn (T : z_T) (A : z_A) (τ : z_K4) : z_P3 :=
  if (z_nx T τ).2.2.1 = 1 ∧ 0 < z_nmd A (z_nx T τ).2.2.2 ∧ A 8 (z_nmd A (z_nx T τ).2.2.2) = -1 then
    (if (z_nx T (z_nx T τ)).2.2.1 = 2 ∧ (z_nx T (z_nx T τ)).2.2.2 ≤ A 0 0 then
      @ite _ ((z_nx T (z_nx T (z_nx T τ))).2.2.1 = 3 ∧ z_bears (z_up A 8 (z_nmd A (z_nx T τ).2.2.2) (z_nx T (z_nx T τ)).2.2.2)) (Classical.propDecidable _) (1, z_up A 8 (z_nmd A (z_nx T τ).2.2.2) (z_nx T (z_nx T τ)).2.2.2, z_nx T (z_nx T (z_nx T (z_nx T τ)))) (0, A, z_nx T (z_nx T (z_nx T τ)))
    else (0, A, z_nx T (z_nx T τ))) else (0, A, z_nx T τ)
theorem c_readPin {sh : List z_C} {w : z_Mm} {A : z_A} {T : z_T} {τ : z_K4} {K : Int → z_Mm → Prop} (hT : z_isTG sh 0) (h : z_tc w T) (hc : z_ctk w τ) (ht : z_tkk T τ) (hA : z_okg A) (hb : z_bears A) (hp : z_pr w 142 A) (hn : z_nbN w A)
    (k : ∀ w', z_pst3 w' (z_ppn T A τ) → z_f13 w w' → K (z_ppn T A τ).1 w') : z_CI mX4_readPin [z_r 139] sh w K := by
  have hR : z_isRea sh 139 := hT.2.2.2.2.2.2.1
  have r0 := hA.1
  have r1 := hA.2.1
  have ht1 := z_tkk_nx ht
  have ht2 := z_tkk_nx ht1
  have ht3 := z_tkk_nx ht2
  unfold z_ppn at k
  refine z_CIi (t_X4_readPin hR ?_)
  refine c_adv hT h hc ht (fun w2 c2 f2 => ?_)
  have h2 := h.f139 f2
  have p2 := hp.f139 hA f2
  have bad1 : ¬ ((z_nx T τ).2.2.1 = 1 ∧ 0 < z_nmd A (z_nx T τ).2.2.2 ∧ A 8 (z_nmd A (z_nx T τ).2.2.2) = -1) → K 0 w2 := fun q => by
    rw [if_neg q] at k
    exact k w2 ⟨⟨c2.1, p2.2.2.2⟩, fun c => absurd rfl c⟩ f2.f13
  refine c_eventHere hT h2 c2 ht1 hA p2 (fun q1 q2 => ⟨fun d => ?_, fun _ => ⟨fun d => ⟨_, _, rfl, rfl, bad1 (fun q => by have := q.2.1; omega)⟩, fun d => ?_⟩⟩) (fun q => ⟨fun _ => ⟨_, _, rfl, rfl, bad1 (fun c => q ⟨c.1, by have := c.2.1; omega⟩)⟩, fun d => absurd rfl d⟩)
  · have := z_nmd_R (A := A) (v := (z_nx T τ).2.2.2) r1.1
    omega
  have b1 : z_bl (A 1 0) (z_nmd A (z_nx T τ).2.2.2) := by rcases z_nmd_R (A := A) (v := (z_nx T τ).2.2.2) r1.1 with x | x; exact absurd x q2; exact x
  obtain ⟨b10, b11⟩ := b1
  have ep := z_fipn p2.1 b10 b11
  refine ⟨⟨⟨by omega, by omega⟩, True.intro⟩, fun d2 => ?_, fun d2 => ⟨_, _, rfl, rfl, bad1 (fun q => d2 (by rw [ep, if_pos q.2.2]))⟩⟩
  have hu : A 8 (z_nmd A (z_nx T τ).2.2.2) = -1 := Classical.byContradiction fun q => by rw [ep, if_neg q] at d2; omega
  rw [if_pos ⟨q1, by omega, hu⟩] at k
  refine c_adv hT h2 c2 ht1 (fun w8 c8 f8 => ?_)
  have h8 := h2.f139 f8
  have p8 := p2.f139 hA f8
  have g8 : z_f13 w w8 := f2.f13.trans f8.f13
  have bad2 : ¬ ((z_nx T (z_nx T τ)).2.2.1 = 2 ∧ (z_nx T (z_nx T τ)).2.2.2 ≤ A 0 0) → K 0 w8 := fun q => by
    rw [if_neg q] at k
    exact k w8 ⟨⟨c8.1, p8.2.2.2⟩, fun c => absurd rfl c⟩ g8
  refine c_numberHere hT h8 c8 ht2 ?_
  by_cases q3 : (z_nx T (z_nx T τ)).2.2.1 = 2
  · rw [if_pos q3]
    obtain ⟨-, -, v0, v1⟩ := ht2.2.2.2 q3
    refine ⟨fun d => absurd d (by omega), fun _ => ⟨fun q4 => ?_, fun q4 => ⟨_, _, rfl, rfl, bad2 (fun q => q4 (by rw [show w8 142 9 = A 0 0 from p8.1.1]; exact q.2))⟩⟩⟩
    rw [show w8 142 9 = A 0 0 from p8.1.1] at q4
    rw [if_pos ⟨q3, q4⟩] at k
    refine c_adv hT h8 c8 ht2 (fun w13 c13 f13 => ?_)
    have h13 := h8.f139 f13
    have p13 := p8.f139 hA f13
    have g13 : z_f13 w w13 := g8.trans f13.f13
    obtain ⟨S, a, b, d'⟩ := hn
    have d13 : z_bd w13 153 (A 1 0) S := d'.fr (by rw [f13 153 (by omega), f8 153 (by omega), f2 153 (by omega)]) (by show w13 158 = w 158; rw [f13 158 (by omega), f8 158 (by omega), f2 158 (by omega)])
    have h0 : z_bl (A 1 0) 0 := ⟨by omega, by omega⟩
    have e1 := z_dd_S hA hb a b (a := z_nmd A (z_nx T τ).2.2.2) (b := 0) ⟨b10, b11⟩ h0
    have e2 := z_dd_S hA hb a b (a := 0) (b := z_nmd A (z_nx T τ).2.2.2) h0 ⟨b10, b11⟩
    have hiff := z_pin_iff hA hb (e := z_nmd A (z_nx T τ).2.2.2) (t := (z_nx T (z_nx T τ)).2.2.2) (by omega) b11 hu v0
    have hiff' : z_bears (z_up A 8 (z_nmd A (z_nx T τ).2.2.2) (z_nx T (z_nx T τ)).2.2.2) ↔ (- z_Dd S (A 1 0) (z_nmd A (z_nx T τ).2.2.2) 0 ≤ (z_nx T (z_nx T τ)).2.2.2 ∧ (z_nx T (z_nx T τ)).2.2.2 ≤ z_Dd S (A 1 0) 0 (z_nmd A (z_nx T τ).2.2.2)) := by
      rw [e1, e2]
      exact hiff
    have tk3 : w13 139 3 = 4 ↔ (z_nx T (z_nx T (z_nx T τ))).2.2.1 = 3 := by
      have := ht3.2.1
      rw [c13.2.2]
      (repeat' split) <;> omega
    refine ⟨fun d3 => ⟨z_sal a d13 ⟨b10, b11⟩, fun d4 => ?_, fun d4 => ?_⟩, fun d3 => ?_⟩
    · rw [z_fal a d13 ⟨b10, b11⟩] at d4
      have nb : ¬ z_bears (z_up A 8 (z_nmd A (z_nx T τ).2.2.2) (z_nx T (z_nx T τ)).2.2.2) := fun q => by rw [if_pos (hiff'.mp q)] at d4; omega
      rw [if_neg (fun q => nb q.2)] at k
      exact ⟨_, _, rfl, rfl, k w13 ⟨⟨c13.1, p13.2.2.2⟩, fun c => absurd rfl c⟩ g13⟩
    · rw [z_fal a d13 ⟨b10, b11⟩] at d4
      have yb : z_bears (z_up A 8 (z_nmd A (z_nx T τ).2.2.2) (z_nx T (z_nx T τ)).2.2.2) := Classical.byContradiction fun nb => d4 (if_neg (fun q => nb (hiff'.mpr q)))
      obtain ⟨y1, y2⟩ := hiff'.mp yb
      rw [if_pos ⟨tk3.mp d3, yb⟩] at k
      have hN : z_isNet sh 153 := hR.2.2.2
      have hB : z_okg (z_up A 8 (z_nmd A (z_nx T τ).2.2.2) (z_nx T (z_nx T τ)).2.2.2) := z_okg_pin hA (by omega) (by omega)
      refine ⟨⟨b10, by omega⟩, fun w17 e17 => ?_⟩
      have f17 : ∀ a : Nat, a ≠ 145 → w17 a = w13 a := fun a ha => by rw [e17, z_Wf ha]
      have p17 : z_pr w17 142 (z_up A 8 (z_nmd A (z_nx T τ).2.2.2) (z_nx T (z_nx T τ)).2.2.2) := by rw [e17]; exact z_pr_pin (P := 142) p13
      refine c_addPin hN a (d13.fr (f17 153 (by omega)) (f17 158 (by omega))) ⟨b10, b11⟩ y1 y2 (fun w19 d19 f19 => ?_)
      have g19 : z_f13 w w19 := g13.trans (fun a a1 a2 => by rw [f19 a (by omega), f17 a (by omega)])
      have c19 : z_ctk w19 (z_nx T (z_nx T (z_nx T τ))) := by unfold z_ctk; rw [f19 139 (by omega), f17 139 (by omega)]; exact c13
      have h19 : z_tc w19 T := h.f13 g19
      have p19 := p17.fr hB (fun a a0 a1 => f19 a (by omega))
      refine c_adv hT h19 c19 ht3 (fun w20 c20 f20 => ⟨_, _, rfl, rfl, k w20 ⟨⟨c20.1, (p19.f139 hB f20).2.2.2⟩, fun _ => ⟨c20, p19.f139 hB f20, ?_⟩⟩ (g19.trans f20.f13)⟩)
      show z_nbN w20 (z_up A 8 (z_nmd A (z_nx T τ).2.2.2) (z_nx T (z_nx T τ)).2.2.2)
      refine ⟨_, by rw [z_pu1]; exact z_S2p_sv a ⟨b10, b11⟩ y1 y2, fun x => ?_, ?_⟩
      · rw [z_S2p_F, b, z_F_pin (by omega) b11 hu (by omega)]
      · rw [z_pu1]
        exact d19.fr (f20 153 (by omega)) (f20 158 (by omega))
    · rw [if_neg (fun q => d3 (tk3.mpr q.1))] at k
      exact ⟨_, _, rfl, rfl, k w13 ⟨⟨c13.1, p13.2.2.2⟩, fun c => absurd rfl c⟩ g13⟩
  · rw [if_neg q3]
    exact ⟨fun _ => ⟨_, _, rfl, rfl, bad2 (fun q => q3 q.1)⟩, fun d => absurd rfl d⟩
