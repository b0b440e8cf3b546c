/-! WHAT THE READERS LEAVE -/
theorem z_opn_2 {A : z_A} {v : Int} : z_opn A v 2 0 = A 2 0 := z_opn_ne (Or.inl (by decide)) (Or.inl (by decide)) (Or.inl (by decide))
theorem z_opn_10 {A : z_A} {v : Int} : z_opn A v 10 0 = A 10 0 := z_opn_ne (Or.inl (by decide)) (Or.inl (by decide)) (Or.inl (by decide))
theorem z_add_c1 {A : z_A} {one oth kd n on : Int} : z_add A one oth kd n on 1 0 = A 1 0 := z_add_lt (Or.inl (by decide))
theorem z_add_c9 {A : z_A} {one oth kd n on e : Int} : z_add A one oth kd n on 9 e = A 9 e := z_add_lt (Or.inr (by decide))
theorem z_add_c10 {A : z_A} {one oth kd n on : Int} : z_add A one oth kd n on 10 0 = A 10 0 := z_add_lt (Or.inr (by decide))
theorem z_pev_ok {T : z_T} {A : z_A} {τ : z_K4} (hA : z_ok A) (ht : z_tkk T τ) : z_tkk T (z_pev T A τ).2.2 ∧ ((z_pev T A τ).1 = 0 ∨ ((z_pev T A τ).1 = 1 ∧ z_ok (z_pev T A τ).2.1 ∧ (z_pev T A τ).2.1 1 0 = A 1 0 + 1 ∧ (z_pev T A τ).2.1 2 0 = A 2 0 ∧ (z_pev T A τ).2.1 10 0 = A 10 0 ∧ A 1 0 < 10)) := by
  have r1 := hA.1.2.1
  have ht1 := z_tkk_nx ht
  have ht2 := z_tkk_nx ht1
  unfold z_pev
  by_cases c : A 1 0 = 10
  · rw [if_pos c]
    exact ⟨ht, Or.inl rfl⟩
  · rw [if_neg c]
    by_cases c1 : (z_nx T τ).2.2.1 = 1 ∧ ¬ z_kwp (z_nx T τ).2.2.2 ∧ z_nmd A (z_nx T τ).2.2.2 = -2
    · rw [if_pos c1]
      by_cases c2 : (z_nx T (z_nx T τ)).2.2.1 = 3
      · rw [if_pos c2]
        obtain ⟨l1, l2⟩ := ht1.2.2.1 c1.1
        refine ⟨z_tkk_nx ht2, Or.inr ⟨rfl, ⟨z_okg_opn hA.1 (by omega), z_bears_opn hA.1 hA.2.1, z_okn_opn hA.1 hA.2.2 (by rw [l2]; exact z_tw_vw l1)⟩, z_opn_1 (A := A) (v := (z_nx T τ).2.2.2), z_opn_2 (A := A) (v := (z_nx T τ).2.2.2), z_opn_10 (A := A) (v := (z_nx T τ).2.2.2), by omega⟩⟩
      · rw [if_neg c2]
        exact ⟨ht2, Or.inl rfl⟩
    · rw [if_neg c1]
      exact ⟨ht1, Or.inl rfl⟩
theorem z_pgp_ok {T : z_T} {A : z_A} {τ : z_K4} (hA : z_ok A) (ht : z_tkk T τ) : z_tkk T (z_pgp T A τ).2.2 ∧ ((z_pgp T A τ).1 = 0 ∨ ((z_pgp T A τ).1 = 1 ∧ z_ok (z_pgp T A τ).2.1 ∧ (z_pgp T A τ).2.1 1 0 = A 1 0 ∧ (z_pgp T A τ).2.1 2 0 = A 2 0 + 1 ∧ (z_pgp T A τ).2.1 10 0 = A 10 0 ∧ A 2 0 < 24)) := by
  have r1 := hA.1.2.1
  have r2 := hA.1.2.2.1
  have ht1 := z_tkk_nx ht
  have ht2 := z_tkk_nx ht1
  have ht3 := z_tkk_nx ht2
  have ht4 := z_tkk_nx ht3
  have ht5 := z_tkk_nx ht4
  have ht6 := z_tkk_nx ht5
  unfold z_pgp
  by_cases c : A 2 0 = 24
  · rw [if_pos c]
    exact ⟨ht, Or.inl rfl⟩
  rw [if_neg c]
  by_cases c1 : (z_nx T τ).2.2.1 = 1 ∧ z_nmd A (z_nx T τ).2.2.2 ≠ -2
  rotate_left 1
  · rw [if_neg c1]
    exact ⟨ht1, Or.inl rfl⟩
  rw [if_pos c1]
  by_cases c2 : (z_nx T (z_nx T τ)).2.2.1 = 1 ∧ z_nmd A (z_nx T (z_nx T τ)).2.2.2 ≠ -2 ∧ z_nmd A (z_nx T (z_nx T τ)).2.2.2 ≠ z_nmd A (z_nx T τ).2.2.2
  rotate_left 1
  · rw [if_neg c2]
    exact ⟨ht2, Or.inl rfl⟩
  rw [if_pos c2]
  by_cases c3 : z_isk (z_nx T (z_nx T (z_nx T τ))) 441972 ∨ z_isk (z_nx T (z_nx T (z_nx T τ))) 12748404
  rotate_left 1
  · rw [if_neg c3]
    exact ⟨ht3, Or.inl rfl⟩
  rw [if_pos c3]
  have b1 : z_bl (A 1 0) (z_nmd A (z_nx T τ).2.2.2) := by rcases z_nmd_R (A := A) (v := (z_nx T τ).2.2.2) r1.1 with x | x; exact absurd x c1.2; exact x
  have b2 : z_bl (A 1 0) (z_nmd A (z_nx T (z_nx T τ)).2.2.2) := by rcases z_nmd_R (A := A) (v := (z_nx T (z_nx T τ)).2.2.2) r1.1 with x | x; exact absurd x c2.2.1; exact x
  have hk : 0 ≤ z_kdv (z_nx T (z_nx T (z_nx T τ))) ∧ z_kdv (z_nx T (z_nx T (z_nx T τ))) ≤ 1 := by
    unfold z_kdv
    split <;> omega
  have q5 := c2.2.2
  generalize z_nmd A (z_nx T τ).2.2.2 = one at b1 q5 ⊢
  generalize z_nmd A (z_nx T (z_nx T τ)).2.2.2 = oth at b2 q5 ⊢
  generalize z_kdv (z_nx T (z_nx T (z_nx T τ))) = kd at hk ⊢
  unfold z_pg4
  by_cases c4 : (z_nx T (z_nx T (z_nx T (z_nx T τ)))).2.2.1 = 2
  rotate_left 1
  · rw [if_neg c4]
    exact ⟨ht4, Or.inl rfl⟩
  rw [if_pos c4]
  obtain ⟨-, -, v0, v1⟩ := ht4.2.2.2 c4
  generalize (z_nx T (z_nx T (z_nx T (z_nx T τ)))).2.2.2 = n at v0 v1 ⊢
  have six : ∀ (on : Int) (τ' : z_K4), (on = 0 ∨ on = 1) → z_tkk T τ' → z_tkk T (z_pg6 T A one oth kd n on τ').2.2 ∧ ((z_pg6 T A one oth kd n on τ').1 = 0 ∨ ((z_pg6 T A one oth kd n on τ').1 = 1 ∧ z_ok (z_pg6 T A one oth kd n on τ').2.1 ∧ (z_pg6 T A one oth kd n on τ').2.1 1 0 = A 1 0 ∧ (z_pg6 T A one oth kd n on τ').2.1 2 0 = A 2 0 + 1 ∧ (z_pg6 T A one oth kd n on τ').2.1 10 0 = A 10 0 ∧ A 2 0 < 24)) := by
    intro on τ' hon ht'
    unfold z_pg6
    by_cases c6 : τ'.2.2.1 = 3 ∧ (on = 0 ∨ z_bears (z_add A one oth kd n 1))
    · rw [if_pos c6]
      refine ⟨z_tkk_nx ht', Or.inr ⟨rfl, ⟨z_okg_add hA.1 (by omega) b1 b2 (Ne.symm q5) hk ⟨v0, v1⟩ (by omega), ?_, z_okn_of (B := z_add A one oth kd n on) hA.2.2 z_add_c1 (fun _ => z_add_c9) z_add_c10⟩, z_add_c1 (A := A) (one := one) (oth := oth) (kd := kd) (n := n) (on := on), z_add_2 (A := A) (one := one) (oth := oth) (kd := kd) (n := n) (on := on), z_add_c10 (A := A) (one := one) (oth := oth) (kd := kd) (n := n) (on := on), by omega⟩⟩
      rcases hon with rfl | rfl
      · obtain ⟨x, hx⟩ := hA.2.1
        exact ⟨x, z_F_add0.mpr hx⟩
      · exact c6.2.resolve_left (by decide)
    · rw [if_neg c6]
      exact ⟨ht', Or.inl rfl⟩
  by_cases c5 : z_isk (z_nx T (z_nx T (z_nx T (z_nx T (z_nx T τ))))) 15558
  · rw [if_pos c5]
    exact six 0 _ (Or.inl rfl) ht6
  · rw [if_neg c5]
    exact six 1 _ (Or.inr rfl) ht5
theorem z_np_up {A : z_A} {e t : Int} (e0 : 0 ≤ e) (hu : A 8 e = -1) (ht : t ≠ -1) : ∀ k : Nat, z_np (z_up A 8 e t) k = z_np A k + (if e < k then 1 else 0)
  | 0 => by
    rw [if_neg (by omega)]
    rfl
  | k + 1 => by
    have ih := z_np_up e0 hu ht k
    rw [z_np, z_np, ih]
    by_cases c : (k : Int) = e
    · have h1 : (if e < (k : Int) then (1 : Int) else 0) = 0 := if_neg (by omega)
      have h2 : (if e < ((k + 1 : Nat) : Int) then (1 : Int) else 0) = 1 := if_pos (by omega)
      rw [h1, h2, c, z_up_same, if_neg ht, if_pos hu]
      try omega
    · rw [z_up_ne (Or.inr c)]
      have h1 : (if e < ((k + 1 : Nat) : Int) then (1 : Int) else 0) = (if e < (k : Int) then (1 : Int) else 0) := by
        by_cases c2 : e < (k : Int)
        · rw [if_pos c2, if_pos (by omega)]
        · rw [if_neg c2, if_neg (by omega)]
      rw [h1]
      omega
theorem z_np_lt {A : z_A} (hA : z_okg A) : ∀ k : Nat, 1 ≤ k → z_np A k ≤ k - 1
  | 0, h => absurd h (by omega)
  | 1, _ => by
    show z_np A 0 + (if A 8 ((0 : Nat) : Int) = -1 then 0 else 1) ≤ _
    rw [show ((0 : Nat) : Int) = 0 from rfl, hA.2.2.2.2.2, if_pos rfl]
    show (0 : Int) + 0 ≤ ((1 : Nat) : Int) - 1
    omega
  | k + 2, _ => by
    have ih := z_np_lt hA (k + 1) (by omega)
    rw [z_np]
    split <;> omega
theorem z_ppn_ok {T : z_T} {A : z_A} {τ : z_K4} (hA : z_ok A) (ht : z_tkk T τ) : z_tkk T (z_ppn T A τ).2.2 ∧ ((z_ppn T A τ).1 = 0 ∨ ((z_ppn T A τ).1 = 1 ∧ z_ok (z_ppn T A τ).2.1 ∧ (z_ppn T A τ).2.1 1 0 = A 1 0 ∧ (z_ppn T A τ).2.1 10 0 = A 10 0 ∧ z_np (z_ppn T A τ).2.1 (A 1 0).toNat = z_np A (A 1 0).toNat + 1)) := by
  have r0 := hA.1.1
  have r1 := hA.1.2.1
  have ht1 := z_tkk_nx ht
  have ht2 := z_tkk_nx ht1
  have ht3 := z_tkk_nx ht2
  unfold z_ppn
  by_cases c1 : (z_nx T τ).2.2.1 = 1 ∧ 0 < z_nmd A (z_nx T τ).2.2.2 ∧ A 8 (z_nmd A (z_nx T τ).2.2.2) = -1
  rotate_left 1
  · rw [if_neg c1]
    exact ⟨ht1, Or.inl rfl⟩
  rw [if_pos c1]
  by_cases c2 : (z_nx T (z_nx T τ)).2.2.1 = 2 ∧ (z_nx T (z_nx T τ)).2.2.2 ≤ A 0 0
  rotate_left 1
  · rw [if_neg c2]
    exact ⟨ht2, Or.inl rfl⟩
  rw [if_pos c2]
  obtain ⟨-, -, v0, v1⟩ := ht2.2.2.2 c2.1
  by_cases c3 : (z_nx T (z_nx T (z_nx T τ))).2.2.1 = 3 ∧ z_bears (z_up A 8 (z_nmd A (z_nx T τ).2.2.2) (z_nx T (z_nx T τ)).2.2.2)
  rotate_left 1
  · rw [if_neg c3]
    exact ⟨ht3, Or.inl rfl⟩
  rw [if_pos c3]
  have b1 : z_bl (A 1 0) (z_nmd A (z_nx T τ).2.2.2) := by rcases z_nmd_R (A := A) (v := (z_nx T τ).2.2.2) r1.1 with x | x; omega; exact x
  obtain ⟨b10, b11⟩ := b1
  have okC : z_ok (z_up A 8 (z_nmd A (z_nx T τ).2.2.2) (z_nx T (z_nx T τ)).2.2.2) := ⟨z_okg_pin hA.1 (by omega) (by omega), c3.2, z_okn_up hA.2.2 (by decide) (by decide) (by decide)⟩
  have eC : z_up A 8 (z_nmd A (z_nx T τ).2.2.2) (z_nx T (z_nx T τ)).2.2.2 10 0 = A 10 0 := z_up_ne (Or.inl (by decide))
  have e1C : z_up A 8 (z_nmd A (z_nx T τ).2.2.2) (z_nx T (z_nx T τ)).2.2.2 1 0 = A 1 0 := z_pu1
  refine ⟨z_tkk_nx ht3, Or.inr ⟨rfl, okC, e1C, eC, ?_⟩⟩
  have := z_np_up (A := A) (e := z_nmd A (z_nx T τ).2.2.2) (t := (z_nx T (z_nx T τ)).2.2.2) b10 c1.2.2 (by omega) (A 1 0).toNat
  rw [if_pos (by omega)] at this
  exact this
/-! the loops -/
noncomputable def z_lev (T : z_T) : Nat → z_A → z_K4 → z_P3
  | 0, A, τ => (1, A, τ)
  | k + 1, A, τ => @ite _ (z_isk τ 5969364) (Classical.propDecidable _) (if (z_pev T A τ).1 = 0 then z_pev T A τ else z_lev T k (z_pev T A τ).2.1 (z_pev T A τ).2.2) (1, A, τ)
noncomputable def z_lgp (T : z_T) : Nat → z_A → z_K4 → z_P3
  | 0, A, τ => (1, A, τ)
  | k + 1, A, τ => @ite _ (z_isk τ 7216) (Classical.propDecidable _) (if (z_pgp T A τ).1 = 0 then z_pgp T A τ else z_lgp T k (z_pgp T A τ).2.1 (z_pgp T A τ).2.2) (1, A, τ)
noncomputable def z_lpn (T : z_T) : Nat → z_A → z_K4 → z_P3
  | 0, A, τ => (if τ.2.2.1 = 0 then 1 else 0, A, τ)
  | k + 1, A, τ => @ite _ (z_isk τ 16686) (Classical.propDecidable _) (if (z_ppn T A τ).1 = 0 then z_ppn T A τ else z_lpn T k (z_ppn T A τ).2.1 (z_ppn T A τ).2.2) (if τ.2.2.1 = 0 then 1 else 0, A, τ)
theorem c_lpn {sh : List z_C} {T : z_T} {K : Int → z_Mm → Prop} (hT : z_isTG sh 0) : ∀ (k : Nat) (A : z_A) (τ : z_K4) (w : z_Mm), k ≤ 10 → z_tc w T → z_ctk w τ → z_tkk T τ → z_ok A → z_pr w 142 A → z_nbN w A →
    (∀ w', z_ps1 w' (z_lpn T k A τ).2.2.1 → ((z_lpn T k A τ).1 ≠ 0 → z_pr w' 142 (z_lpn T k A τ).2.1 ∧ z_ok (z_lpn T k A τ).2.1 ∧ (z_lpn T k A τ).2.1 10 0 = A 10 0) → z_f13 w w' → K (z_lpn T k A τ).1 w') →
    z_Sem mX4_read (sh.length, 0) 108 [(0, z_r 139), (1, z_i (10 - (k : Int)))] [] (sh, w) (fun r σ => ∃ (x : Int) (w' : z_Mm), r = some (z_i x) ∧ σ = (sh, w') ∧ K x w')
  | 0, A, τ, w, _, h, hc, ht, hA, hp, hn, kk => by
    have hR : z_isRea sh 139 := hT.2.2.2.2.2.2.1
    have e3 : w 139 3 = 0 ↔ τ.2.2.1 = 0 := by
      have := ht.2.1
      rw [hc.2.2]
      (repeat' split) <;> omega
    unfold z_lpn at kk
    refine t_X4_read_108 hR ⟨fun _ => ⟨_, _, rfl, rfl, ?_⟩, fun c => absurd (by omega) c⟩
    by_cases q : τ.2.2.1 = 0
    · rw [if_pos q] at kk
      rw [if_pos (e3.mpr q)]
      exact kk w ⟨hc.1, hp.2.2.2⟩ (fun _ => ⟨hp, hA, rfl⟩) (fun _ _ _ => rfl)
    · rw [if_neg q] at kk
      rw [if_neg (fun c => q (e3.mp c))]
      exact kk w ⟨hc.1, hp.2.2.2⟩ (fun c => absurd rfl c) (fun _ _ _ => rfl)
  | k + 1, A, τ, w, hk, h, hc, ht, hA, hp, hn, kk => by
    have hR : z_isRea sh 139 := hT.2.2.2.2.2.2.1
    obtain ⟨-, -, -, -, -, -, -, s7, -⟩ := z_skeys
    have e3 : w 139 3 = 0 ↔ τ.2.2.1 = 0 := by
      have := ht.2.1
      rw [hc.2.2]
      (repeat' split) <;> omega
    unfold z_lpn at kk
    refine t_X4_read_108 hR ⟨fun c => absurd c (by omega), fun _ => ?_⟩
    refine c_isHere hT (s := 7) (by omega) h hc ht (fun e => ⟨fun c => absurd c (by decide), fun _ => ?_⟩) (fun e => ⟨fun _ => ⟨_, _, rfl, rfl, ?_⟩, fun c => absurd rfl c⟩)
    · rw [if_pos (s7 ▸ e)] at kk
      obtain ⟨tk', ok'⟩ := z_ppn_ok hA ht
      refine c_readPin hT h hc ht hA.1 hA.2.1 hp hn (fun w13 p13 f13 => ⟨fun c => ?_, fun c => ?_⟩)
      · rw [if_pos c] at kk
        exact ⟨_, _, rfl, rfl, c ▸ kk w13 p13.1 (fun d => absurd c d) f13⟩
      · rw [if_neg c] at kk
        obtain ⟨a1, a2, a3⟩ := p13.2 c
        obtain ⟨o1, o2, o3, o4, o5⟩ := ok'.resolve_left c
        refine ⟨⟨by omega, by omega⟩, ?_⟩
        have := c_lpn (K := K) hT k (z_ppn T A τ).2.1 (z_ppn T A τ).2.2 w13 (by omega) (h.f13 f13) a1 tk' o2 a2 a3 (fun w' x1 x2 x3 => kk w' x1 (fun d => by
          obtain ⟨y1, y2, y3⟩ := x2 d
          exact ⟨y1, y2, y3.trans o4⟩) (f13.trans x3))
        rw [show (10 : Int) - ((k + 1 : Nat) : Int) + 1 = 10 - (k : Int) by omega]
        exact this
    · rw [if_neg (s7 ▸ e)] at kk
      by_cases q : τ.2.2.1 = 0
      · rw [if_pos q] at kk
        rw [if_pos (e3.mpr q)]
        exact kk w ⟨hc.1, hp.2.2.2⟩ (fun _ => ⟨hp, hA, rfl⟩) (fun _ _ _ => rfl)
      · rw [if_neg q] at kk
        rw [if_neg (fun c => q (e3.mp c))]
        exact kk w ⟨hc.1, hp.2.2.2⟩ (fun c => absurd rfl c) (fun _ _ _ => rfl)
theorem c_lgp {sh : List z_C} {T : z_T} {K : Int → z_Mm → Prop} (hT : z_isTG sh 0) : ∀ (k : Nat) (A : z_A) (τ : z_K4) (w : z_Mm), k ≤ 25 → z_tc w T → z_ctk w τ → z_tkk T τ → z_ok A → z_pr w 142 A → z_nbN w A →
    ((z_lgp T k A τ).1 = 0 → ∀ w', z_ps1 w' (z_lgp T k A τ).2.2.1 → z_f13 w w' → K 0 w') →
    ((z_lgp T k A τ).1 ≠ 0 → ∀ w', z_ctk w' (z_lgp T k A τ).2.2 → z_tkk T (z_lgp T k A τ).2.2 → z_ok (z_lgp T k A τ).2.1 → (z_lgp T k A τ).2.1 10 0 = A 10 0 → z_pr w' 142 (z_lgp T k A τ).2.1 → z_nbN w' (z_lgp T k A τ).2.1 → z_f13 w w' → z_Sem mX4_read (sh.length, 0) 108 [(0, z_r 139), (1, z_i 0)] [] (sh, w') (fun r σ => ∃ (x : Int) (w' : z_Mm), r = some (z_i x) ∧ σ = (sh, w') ∧ K x w')) →
    z_Sem mX4_read (sh.length, 0) 76 [(0, z_r 139), (1, z_i (25 - (k : Int)))] [] (sh, w) (fun r σ => ∃ (x : Int) (w' : z_Mm), r = some (z_i x) ∧ σ = (sh, w') ∧ K x w')
  | 0, A, τ, w, _, h, hc, ht, hA, hp, hn, k0, k1 => by
    have hR : z_isRea sh 139 := hT.2.2.2.2.2.2.1
    unfold z_lgp at k1
    exact t_X4_read_76 hR ⟨fun _ => k1 (show ¬ (1 : Int) = 0 by decide) w hc ht hA rfl hp hn (fun _ _ _ => rfl), fun c => absurd (by omega) c⟩
  | k + 1, A, τ, w, hk, h, hc, ht, hA, hp, hn, k0, k1 => by
    have hR : z_isRea sh 139 := hT.2.2.2.2.2.2.1
    obtain ⟨-, -, -, -, -, -, s6, -⟩ := z_skeys
    unfold z_lgp at k0 k1
    refine t_X4_read_76 hR ⟨fun c => absurd c (by omega), fun _ => ?_⟩
    refine c_isHere hT (s := 6) (by omega) h hc ht (fun e => ⟨fun c => absurd c (by decide), fun _ => ?_⟩) (fun e => ⟨fun _ => ?_, fun c => absurd rfl c⟩)
    · rw [if_pos (s6 ▸ e)] at k0 k1
      obtain ⟨tk', ok'⟩ := z_pgp_ok hA ht
      refine c_readGap hT h hc ht hA.1 hA.2.1 hp hn (fun w13 p13 f13 => ⟨fun c => ?_, fun c => ?_⟩)
      · rw [if_pos c] at k0
        exact ⟨_, _, rfl, rfl, k0 c w13 p13.1 f13⟩
      · rw [if_neg c] at k0 k1
        obtain ⟨a1, a2, a3⟩ := p13.2 c
        obtain ⟨o1, o2, o3, o4, o5, o6⟩ := ok'.resolve_left c
        refine ⟨⟨by omega, by omega⟩, ?_⟩
        have := c_lgp (K := K) hT k (z_pgp T A τ).2.1 (z_pgp T A τ).2.2 w13 (by omega) (h.f13 f13) a1 tk' o2 a2 a3 (fun d w' x1 x2 => k0 d w' x1 (f13.trans x2)) (fun d w' x1 x2 x3 x4 x5 x6 x7 => k1 d w' x1 x2 x3 (x4.trans o5) x5 x6 (f13.trans x7))
        rw [show (25 : Int) - ((k + 1 : Nat) : Int) + 1 = 25 - (k : Int) by omega]
        exact this
    · rw [if_neg (s6 ▸ e)] at k1
      exact k1 (show ¬ (1 : Int) = 0 by decide) w hc ht hA rfl hp hn (fun _ _ _ => rfl)
theorem c_lev {sh : List z_C} {T : z_T} {K : Int → z_Mm → Prop} (hT : z_isTG sh 0) : ∀ (k : Nat) (A : z_A) (τ : z_K4) (w : z_Mm), k ≤ 10 → z_tc w T → z_ctk w τ → z_tkk T τ → z_ok A → z_pr w 142 A →
    ((z_lev T k A τ).1 = 0 → ∀ w', z_ps1 w' (z_lev T k A τ).2.2.1 → z_f13 w w' → K 0 w') →
    ((z_lev T k A τ).1 ≠ 0 → ∀ w', z_ctk w' (z_lev T k A τ).2.2 → z_tkk T (z_lev T k A τ).2.2 → z_ok (z_lev T k A τ).2.1 → (z_lev T k A τ).2.1 10 0 = A 10 0 → z_pr w' 142 (z_lev T k A τ).2.1 → z_f13 w w' → z_CV mX2_build [z_r 153, z_r 142, z_i (-1)] sh w' (fun w2 => z_Sem mX4_read (sh.length, 0) 76 [(0, z_r 139), (1, z_i 0)] [] (sh, w2) (fun r σ => ∃ (x : Int) (w' : z_Mm), r = some (z_i x) ∧ σ = (sh, w') ∧ K x w'))) →
    z_Sem mX4_read (sh.length, 0) 32 [(0, z_r 139), (1, z_i (10 - (k : Int)))] [] (sh, w) (fun r σ => ∃ (x : Int) (w' : z_Mm), r = some (z_i x) ∧ σ = (sh, w') ∧ K x w')
  | 0, A, τ, w, _, h, hc, ht, hA, hp, k0, k1 => by
    have hR : z_isRea sh 139 := hT.2.2.2.2.2.2.1
    unfold z_lev at k1
    exact t_X4_read_32 hR ⟨fun _ => k1 (show ¬ (1 : Int) = 0 by decide) w hc ht hA rfl hp (fun _ _ _ => rfl), fun c => absurd (by omega) c⟩
  | k + 1, A, τ, w, hk, h, hc, ht, hA, hp, k0, k1 => by
    have hR : z_isRea sh 139 := hT.2.2.2.2.2.2.1
    obtain ⟨-, -, -, -, -, s5, -⟩ := z_skeys
    unfold z_lev at k0 k1
    refine t_X4_read_32 hR ⟨fun c => absurd c (by omega), fun _ => ?_⟩
    refine c_isHere hT (s := 5) (by omega) h hc ht (fun e => ⟨fun c => absurd c (by decide), fun _ => ?_⟩) (fun e => ⟨fun _ => ?_, fun c => absurd rfl c⟩)
    · rw [if_pos (s5 ▸ e)] at k0 k1
      obtain ⟨tk', ok'⟩ := z_pev_ok hA ht
      refine c_readEvent hT h hc ht hA.1 hp (fun w13 p13 f13 => ⟨fun c => ?_, fun c => ?_⟩)
      · rw [if_pos c] at k0
        exact ⟨_, _, rfl, rfl, k0 c w13 p13.1 f13⟩
      · rw [if_neg c] at k0 k1
        obtain ⟨a1, a2⟩ := p13.2 c
        obtain ⟨o1, o2, o3, o4, o5, o6⟩ := ok'.resolve_left c
        refine ⟨⟨by omega, by omega⟩, ?_⟩
        have := c_lev (K := K) hT k (z_pev T A τ).2.1 (z_pev T A τ).2.2 w13 (by omega) (h.f13 f13) a1 tk' o2 a2 (fun d w' x1 x2 => k0 d w' x1 (f13.trans x2)) (fun d w' x1 x2 x3 x4 x5 x6 => k1 d w' x1 x2 x3 (x4.trans o5) x5 (f13.trans x6))
        rw [show (10 : Int) - ((k + 1 : Nat) : Int) + 1 = 10 - (k : Int) by omega]
        exact this
    · rw [if_neg (s5 ▸ e)] at k1
      exact k1 (show ¬ (1 : Int) = 0 by decide) w hc ht hA rfl hp (fun _ _ _ => rfl)
noncomputable def z_ld2 (T : z_T) (A : z_A) (τ : z_K4) : z_P3 := if (z_lgp T 25 A τ).1 = 0 then z_lgp T 25 A τ else z_lpn T 10 (z_lgp T 25 A τ).2.1 (z_lgp T 25 A τ).2.2
noncomputable def z_ld1 (T : z_T) (A : z_A) (τ : z_K4) : z_P3 := if (z_lev T 10 A τ).1 = 0 then z_lev T 10 A τ else z_ld2 T (z_lev T 10 A τ).2.1 (z_lev T 10 A τ).2.2
/-- the whole tape, read -/
noncomputable def z_ld0 (T : z_T) : z_P3 := if (z_pen T (z_tok T 0)).1 = 0 then z_pen T (z_tok T 0) else z_ld1 T (z_pen T (z_tok T 0)).2.1 (z_pen T (z_tok T 0)).2.2
theorem z_pen_ok {T : z_T} {τ : z_K4} (ht : z_tkk T τ) : z_tkk T (z_pen T τ).2.2 ∧ ((z_pen T τ).1 = 0 ∨ ((z_pen T τ).1 = 1 ∧ ∃ n : Int, (1 ≤ n ∧ n ≤ 999) ∧ (z_pen T τ).2.1 = z_ini n)) := by
  have ht1 := z_tkk_nx ht
  have ht2 := z_tkk_nx ht1
  unfold z_pen
  by_cases c1 : z_isk τ 5572
  rotate_left 1
  · rw [if_neg c1]
    exact ⟨ht, Or.inl rfl⟩
  rw [if_pos c1]
  by_cases c2 : (z_nx T τ).2.2.1 = 2 ∧ 1 ≤ (z_nx T τ).2.2.2
  rotate_left 1
  · rw [if_neg c2]
    exact ⟨ht1, Or.inl rfl⟩
  rw [if_pos c2]
  by_cases c3 : (z_nx T (z_nx T τ)).2.2.1 = 3
  rotate_left 1
  · rw [if_neg c3]
    exact ⟨ht2, Or.inl rfl⟩
  rw [if_pos c3]
  exact ⟨z_tkk_nx ht2, Or.inr ⟨rfl, _, ⟨c2.2, (ht1.2.2.2 c2.1).2.2.2⟩, rfl⟩⟩
/-- a plan is made new -/
theorem c_planClear {sh : List z_C} {w : z_Mm} {P : Nat} {K : z_Mm → Prop} (hP : z_isPla sh P) (hon : ∀ g : Int, 0 ≤ g → g < 24 → 0 ≤ w (P + 8) g ∧ w (P + 8) g ≤ 1) (k : ∀ w', z_pr w' P (z_ini 100) → z_frP w w' P → K w') : z_CV mX3_clear [z_r P] sh w K := by
  have hL : z_isLog sh (P + 9) := hP.2.2.2.2.2.2.2.2.2
  have h5 : z_len.getD 0 0 = 5 := by decide +kernel
  have hL5 : ∀ u : z_Mm, f_J0_length_8abf5 u 0 = 5 := fun u => by
    show ((z_len.getD 0 0 : Nat) : Int) = 5
    rw [h5]
    rfl
  refine z_CVi (t_X3_clear hP (fun w1 e1 w2 e2 w3 e3 => z_CVi (t_X1_clear hL (fun w4 e4 w5 e5 => ⟨_, rfl, rfl, z_CVi (t_X3_addStart hP ?_)⟩))))
  have f5 : ∀ a : Nat, a ≠ P → a ≠ P + 9 → w5 a = w a := fun a a1 a2 => by rw [e5, z_Wf a2, e4, z_Wf a2, e3, z_Wf a1, e2, z_Wf a1, e1, z_Wf a1]
  refine z_for (n := 5) (i0 := 0) (fun i v => z_Sem mX3_addStart (sh.length, 0) 5 [(0, z_r P), (1, z_r (1001 + 0)), (2, z_i i)] [] (sh, v) _)
    (fun i v => (∀ a : Nat, a ≠ P + 1 → v a = w5 a) ∧ ∀ j : Int, 0 ≤ j → j < i → v (P + 1) j = z_chr 0 j) (by omega) ⟨fun _ _ => rfl, fun j j0 j1 => absurd j1 (by omega)⟩ ?_ ?_
  · rintro v ⟨vf, vc⟩
    refine t_X3_addStart_5 hP ⟨fun _ u2 g2 u3 g3 u4 g4 => ⟨_, rfl, rfl, _, rfl, rfl, k u4 ?_ ?_⟩, fun c => absurd (Int.le_of_eq (hL5 v)) c⟩
    · rw [hL5 v] at g2
      obtain ⟨i0, i1, i2, i8, i9, i10⟩ := z_ini_v (n := 100)
      have q : ∀ a : Nat, a ≠ P → a ≠ P + 1 → a ≠ P + 2 → a ≠ P + 3 → a ≠ P + 9 → u4 a = w a := fun a a1 a2 a3 a4 a5 => by rw [g4, z_Wf a1, g3, z_Wf a4, g2, z_Wf a3, vf a a2, f5 a a1 a5]
      have qP : ∀ j : Int, j ≠ 10 → u4 P j = w3 P j := fun j hj => by rw [g4, z_W_ne (Or.inr hj), g3, z_Wf (by omega), g2, z_Wf (by omega), vf P (by omega), e5, z_Wf (by omega), e4, z_Wf (by omega)]
      have q9 : u4 (P + 9) = w5 (P + 9) := by rw [g4, z_Wf (by omega), g3, z_Wf (by omega), g2, z_Wf (by omega), vf (P + 9) (by omega)]
      have q91 : w5 (P + 9) 1 = 0 := by rw [e5, z_W_ne (Or.inr (by decide)), e4, z_W_same]
      have q92 : w5 (P + 9) 2 = 0 := by rw [e5, z_W_same]
      refine ⟨⟨?_, ?_, ?_, fun g g0 g1 => absurd g1 (by rw [i2]; omega), fun e h0 h1 => ?_⟩, fun e h0 h1 => ?_, ⟨by rw [i10]; omega, by rw [q9, q92, i10], by rw [q9, q91]; omega, fun i h0 h1 => absurd h1 (by rw [i10]; omega)⟩, fun g g0 g1 => ?_⟩
      · rw [qP 9 (by omega), e3, z_W_ne (Or.inr (by decide)), e2, z_W_ne (Or.inr (by decide)), e1, z_W_same, i0]
      · rw [g4, z_W_same, i1]
      · rw [qP 11 (by omega), e3, z_W_same, i2]
      · rw [i1] at h1
        rw [show e = 0 by omega, g4, z_Wf (by omega), g3, z_W_same, i8]
      · rw [i1] at h1
        rw [show e = 0 by omega, i9]
        have q1 : u4 (P + 1) = v (P + 1) := by rw [g4, z_Wf (by omega), g3, z_Wf (by omega), g2, z_Wf (by omega)]
        have lt : ∀ i : Int, 0 ≤ i → i < 5 → 97 ≤ z_chr 0 i ∧ z_chr 0 i ≤ 122 := fun i a0 a1 => by
          have := (z_slet 0 (by omega)).2 i.toNat (by omega)
          rw [show ((i.toNat : Nat) : Int) = i by omega] at this
          exact this
        refine ⟨5, by omega, by omega, by rw [g4, z_Wf (by omega), g3, z_Wf (by omega), g2, z_W_same]; rfl, fun i a0 a1 => ?_, ?_⟩
        · rw [q1, Int.zero_mul, Int.zero_add, vc i a0 (by omega)]
          exact lt i a0 (by omega)
        · have e0 := z_skeys.1
          unfold z_skey at e0
          rw [h5] at e0
          rw [← e0]
          exact z_word_congr (fun i a0 a1 => by rw [q1, Int.zero_mul, Int.zero_add, vc i a0 (by omega)])
      · rw [q (P + 8) (by omega) (by omega) (by omega) (by omega) (by omega)]
        exact hon g g0 g1
    · intro a ha
      rw [g4, z_Wf (by omega), g3, z_Wf (by omega), g2, z_Wf (by omega), vf a (by omega), f5 a (by omega) (by omega)]
  · rintro i v h0 h1 ⟨vf, vc⟩ kk
    have hc : f_J0_charAt_5068e v 0 i = z_chr 0 i := rfl
    refine t_X3_addStart_5 hP ⟨fun c => absurd c (by rw [hL5]; omega), fun _ => ⟨fun c => absurd c (by omega), fun _ => ?_⟩⟩
    rw [hc]
    refine ⟨⟨by omega, by omega⟩, ⟨⟨h0, by rw [hL5]; omega⟩, True.intro⟩, ⟨by omega, by omega⟩, fun w11 e11 => ⟨⟨by omega, by omega⟩, kk w11 ⟨fun a ha => by rw [e11, z_Wf ha, vf a ha], fun j j0 j1 => ?_⟩⟩⟩
    rw [Int.zero_add] at e11
    rw [e11]
    by_cases c : j = i
    · subst c; rw [z_W_same]
    · rw [z_W_ne (Or.inr c)]; exact vc j j0 (by omega)
theorem c_read {sh : List z_C} {w : z_Mm} {T : z_T} {K : Int → z_Mm → Prop} (hT : z_isTG sh 0) (h : z_tc w T) (hon : ∀ g : Int, 0 ≤ g → g < 24 → 0 ≤ w 150 g ∧ w 150 g ≤ 1)
    (k : ∀ w', z_ps1 w' (z_ld0 T).2.2.1 → ((z_ld0 T).1 ≠ 0 → z_pr w' 142 (z_ld0 T).2.1 ∧ z_ok (z_ld0 T).2.1 ∧ (z_ld0 T).2.1 10 0 = 0) → z_f13 w w' → K (z_ld0 T).1 w') : z_CI mX4_read [z_r 139] sh w K := by
  have hR : z_isRea sh 139 := hT.2.2.2.2.2.2.1
  have h0 := h.1
  refine z_CIi (t_X4_read hR ?_)
  refine c_planClear hR.2.2.1 hon (fun w1 p1 f1 w2 e2 w3 e3 => ?_)
  have g3 : z_f13 w w3 := fun a a1 a2 => by rw [e3, z_Wf a1, e2, z_Wf a1, f1 a (by omega)]
  have f3 : ∀ a : Nat, a ≠ 139 → w3 a = w1 a := fun a ha => by rw [e3, z_Wf ha, e2, z_Wf ha]
  have h3 : z_tc w3 T := h.f13 g3
  have p3 : z_pr w3 142 (z_ini 100) := p1.fr (z_ok_ini (by omega)).1 (fun a a0 a1 => f3 a (by omega))
  refine c_next hT h3 (p := 0) (Int.le_refl _) h0.1 (by rw [e3, z_W_same, z_W_ne (Or.inr (by decide)), e2, z_W_same]; rfl) (fun w4 c4 f4 => ?_)
  have ht := z_tkk_tok (T := T) (p := 0) (Int.le_refl _) h0.1
  have h4 := h3.f139 f4
  have p4 := p3.f139 (z_ok_ini (by omega)).1 f4
  have g4 : z_f13 w w4 := g3.trans f4.f13
  unfold z_ld0 at k
  obtain ⟨tk5, ok5⟩ := z_pen_ok ht
  refine c_readEnd hT h4 c4 ht p4 (fun w5 p5 f5 => ⟨fun c => ?_, fun c => ?_⟩)
  · rw [if_pos c] at k
    exact ⟨_, _, rfl, rfl, c ▸ k w5 p5.1 (fun d => absurd c d) (g4.trans f5)⟩
  · rw [if_neg c] at k
    obtain ⟨a1, a2⟩ := p5.2 c
    obtain ⟨o1, n, hn, o2⟩ := ok5.resolve_left c
    have okA : z_ok (z_pen T (z_tok T 0)).2.1 := by rw [o2]; exact z_ok_ini hn
    have lA : (z_pen T (z_tok T 0)).2.1 10 0 = 0 := by rw [o2]; rfl
    generalize (z_pen T (z_tok T 0)).2.1 = A0 at k a2 okA lA
    generalize (z_pen T (z_tok T 0)).2.2 = τ0 at k a1 tk5
    unfold z_ld1 at k
    have g5 := g4.trans f5
    have h5 := h4.f13 f5
    have := c_lev (K := K) hT 10 A0 τ0 w5 (Nat.le_refl _) h5 a1 tk5 okA a2 (fun d w' x1 x2 => ?_) (fun d w' x1 x2 x3 x4 x5 x6 => ?_)
    · rw [show (10 : Int) - ((10 : Nat) : Int) = 0 by decide] at this
      exact this
    · rw [if_pos d] at k
      exact d ▸ k w' x1 (fun e => absurd d e) (g5.trans x2)
    · rw [if_neg d] at k
      generalize (z_lev T 10 A0 τ0).2.1 = A1 at k x3 x4 x5
      generalize (z_lev T 10 A0 τ0).2.2 = τ1 at k x1 x2
      unfold z_ld2 at k
      have g6 := g5.trans x6
      refine c_build hR.2.2.2 hR.2.2.1 x3.1 x3.2.1 (by unfold z_ap; omega) x5.1 (fun w7 n7 f7 => ?_)
      have g7 : z_f13 w w7 := g6.trans (fun a a1 a2 => f7 a (by omega))
      have nb7 : z_nbN w7 A1 := ⟨_, z_sv_A x3.1 x3.2.1 (-1), fun x => z_F_iff x3.1, n7.1⟩
      have c7 : z_ctk w7 τ1 := by unfold z_ctk; rw [f7 139 (by omega)]; exact x1
      have p7 : z_pr w7 142 A1 := x5.fr x3.1 (fun a a0 a1 => f7 a (by omega))
      have := c_lgp (K := K) hT 25 A1 τ1 w7 (Nat.le_refl _) (h.f13 g7) c7 x2 x3 p7 nb7 (fun d2 u y1 y2 => ?_) (fun d2 u y1 y2 y3 y4 y5 y6 y7 => ?_)
      · rw [show (25 : Int) - ((25 : Nat) : Int) = 0 by decide] at this
        exact this
      · rw [if_pos d2] at k
        exact d2 ▸ k u y1 (fun e => absurd d2 e) (g7.trans y2)
      · rw [if_neg d2] at k
        have := c_lpn (K := K) hT 10 (z_lgp T 25 A1 τ1).2.1 (z_lgp T 25 A1 τ1).2.2 u (Nat.le_refl _) (h.f13 (g7.trans y7)) y1 y2 y3 y5 y6 (fun v z1 z2 z3 => k v z1 (fun e => by
          obtain ⟨q1, q2, q3⟩ := z2 e
          exact ⟨q1, q2, by rw [q3, y4, x4, lA]⟩) ((g7.trans y7).trans z3))
        rw [show (10 : Int) - ((10 : Nat) : Int) = 0 by decide] at this
        exact this
/-- LOAD -/
noncomputable def z_dld (A : z_A) (H : List z_A) (T : z_T) (s : Nat → Option z_A) : Int × z_A × List z_A × Int × (Nat → Option z_A) :=
  if (z_ld0 T).1 = 0 then (-1, A, H, (z_ld0 T).2.2.1, s) else ((z_ld0 T).2.1 2 0, (z_ld0 T).2.1, [], -2, fun _ => none)
theorem c_load {sh : List z_C} {w : z_Mm} {A : z_A} {H : List z_A} {T : z_T} {s : Nat → Option z_A} {K : Int → z_Mm → Prop} (hT : z_isTG sh 0) (hs : z_cs w A H) (h : z_tc w T) (hsl : z_slc w s) (hon : ∀ g : Int, 0 ≤ g → g < 24 → 0 ≤ w 150 g ∧ w 150 g ≤ 1)
    (k : ∀ w', z_cs w' (z_dld A H T s).2.1 (z_dld A H T s).2.2.1 → z_tc w' (0, T.2) → w' 0 8 = (z_dld A H T s).2.2.2.1 → z_slc w' (z_dld A H T s).2.2.2.2 → (∀ g : Int, 0 ≤ g → g < 24 → 0 ≤ w' 150 g ∧ w' 150 g ≤ 1) → (∀ a : Nat, 159 ≤ a → w' a = w a) → K (z_dld A H T s).1 w') : z_CI mX8_load [z_r 0] sh w K := by
  have hR : z_isRea sh 139 := hT.2.2.2.2.2.2.1
  obtain ⟨hA, hp, hn, hok, hh⟩ := id hs
  refine z_CIi (t_X8_load hT (c_read hT h hon (fun w1 p1 q1 f1 w7 e7 w8 e8 => ?_)))
  have hP : f_X4_position w1 = w1 139 4 := rfl
  have f8 : ∀ a : Nat, a ≠ 0 → a ≠ 140 → w8 a = w1 a := fun a a1 a2 => by rw [e8, z_Wf a2, e7, z_Wf a1]
  have g8 : ∀ a : Nat, a ≠ 0 → a ≠ 139 → a ≠ 140 → (a < 142 ∨ 158 < a) → w8 a = w a := fun a a1 a2 a3 a4 => (f8 a a1 a3).trans (f1 a a2 a4)
  have e08 : w8 0 8 = if (z_ld0 T).1 = 0 then w1 139 4 else -2 := by rw [e8, z_Wf (by omega), e7, z_W_same, hP]
  have t8 : w8 140 1 = 0 := by rw [e8, z_W_same]
  have tc : ∀ u : z_Mm, u 140 1 = 0 → z_tc u (0, T.2) := fun u hu => ⟨⟨Int.le_refl _, by show (0 : Int) ≤ 900; omega⟩, hu, fun i i0 i1 => absurd i1 (by show ¬ i < 0; omega)⟩
  unfold z_dld at k
  refine ⟨fun c => ?_, fun c => ?_⟩
  · rw [if_pos c] at k e08
    refine ⟨_, _, rfl, rfl, k w8 ?_ (tc w8 t8) (by rw [e08]; exact p1.1) (hsl.fr (fun a a0 a1 => g8 a (by omega) (by omega) (by omega) (by omega))) (fun g g0 g1 => by rw [f8 150 (by omega) (by omega)]; exact p1.2 g g0 g1) (fun a ha => g8 a (by omega) (by omega) (by omega) (by omega))⟩
    exact ⟨hA, hp.fr hA.1 (fun a a0 a1 => g8 a (by omega) (by omega) (by omega) (by omega)), hn.fr (fun a a0 a1 => g8 a (by omega) (by omega) (by omega) (by omega)), hok, hh.fr (fun B hB => (hok B hB).1) (fun a a0 a1 => g8 a (by omega) (by omega) (by omega) (by omega))⟩
  · rw [if_neg c] at k e08
    obtain ⟨a1, a2, a3⟩ := q1 c
    generalize (z_ld0 T).2.1 = B at k a1 a2 a3
    have b8 : z_pr w8 142 B := a1.fr a2.1 (fun a a0 a1 => f8 a (by omega) (by omega))
    refine c_planCopy hT.2.1 hR.2.2.1 (by unfold z_apP; omega) b8.2.2.2 (fun w10 s10 f10 => ?_)
    have p10 : z_pr w10 1 B := b8.s11 a2.1 s10
    have hS : z_isSlo sh 114 := hT.2.2.2.2.2.1
    have hH : z_isHis sh 24 := hT.2.2.2.2.1
    refine z_CVi (t_X5_clear hS ?_)
    refine z_for (n := 2) (i0 := 0) (fun i v => z_Sem mX5_clear (sh.length, 0) 2 [(0, z_r 114), (1, z_i i)] [] (sh, v) _) (fun i v => (∀ a : Nat, a ≠ 116 → v a = w10 a) ∧ ∀ j : Int, 0 ≤ j → j < i → v 116 j = 0) (by omega) ⟨fun _ _ => rfl, fun j j0 j1 => absurd j1 (by omega)⟩ ?_ ?_
    · rintro v ⟨vf, vz⟩
      refine t_X5_clear_2 hS ⟨fun _ => ⟨_, rfl, rfl, z_CVi (t_X0_clear hH (fun u1 g1 u2 g2 => ⟨_, rfl, rfl, ?_⟩))⟩, fun q => absurd (Int.le_refl _) q⟩
      have f2 : ∀ a : Nat, a ≠ 24 → u2 a = v a := fun a ha => by rw [g2, z_Wf ha, g1, z_Wf ha]
      have pu : z_pr u2 1 B := p10.fr a2.1 (fun a a0 a1 => by rw [f2 a (by omega), vf a (by omega)])
      refine c_build hT.2.2.1 hT.2.1 a2.1 a2.2.1 (by unfold z_ap; omega) pu.1 (fun w13 n13 f13 => ?_)
      have g13 : ∀ a : Nat, a ≠ 24 → a ≠ 116 → (a < 12 ∨ 17 < a) → w13 a = w10 a := fun a a1 a2 a3 => by rw [f13 a (by omega), f2 a a1, vf a a2]
      have p13 : z_pr w13 1 B := pu.fr a2.1 (fun a a0 a1 => f13 a (by omega))
      rw [show w13 1 11 = B 2 0 from p13.1.2.2.1]
      refine ⟨_, _, rfl, rfl, k w13 ⟨a2, p13, n13, fun C hC => absurd hC List.not_mem_nil, ?_⟩ (tc w13 ?_) ?_ ?_ ?_ ?_⟩
      · refine ⟨by show 0 ≤ 8; omega, ?_, ?_, fun k' C hC => by cases hC⟩
        · rw [f13 24 (by omega), g2, z_W_same]; rfl
        · rw [f13 24 (by omega), g2, z_W_ne (Or.inr (by decide)), g1, z_W_same]
          exact ⟨by decide, by decide⟩
      · rw [g13 140 (by omega) (by omega) (by omega), f10 140 (by omega)]; exact t8
      · rw [g13 0 (by omega) (by omega) (by omega), f10 0 (by omega)]; exact e08
      · intro i hi
        refine ⟨fun _ => ?_, fun C hC => by cases hC⟩
        rw [f13 116 (by omega), f2 116 (by omega)]
        exact vz (i : Int) (by omega) (by omega)
      · intro g g0 g1
        rw [g13 150 (by omega) (by omega) (by omega), f10 150 (by omega)]
        exact b8.2.2.2 g g0 g1
      · intro a ha
        rw [g13 a (by omega) (by omega) (by omega), f10 a (by omega)]
        exact g8 a (by omega) (by omega) (by omega) (by omega)
    · rintro i v i0 i1 ⟨vf, vz⟩ kk
      refine t_X5_clear_2 hS ⟨fun q => absurd q (by omega), fun _ => ⟨⟨i0, i1⟩, fun w2 e2 => ⟨⟨by omega, by omega⟩, kk w2 ⟨fun a ha => by rw [e2, z_Wf ha, vf a ha], fun j j0 j1 => ?_⟩⟩⟩⟩
      rw [e2]
      by_cases q : j = i
      · subst q; rw [z_W_same]
      · rw [z_W_ne (Or.inr q)]; exact vz j j0 (by omega)
