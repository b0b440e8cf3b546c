/-! THE READERS: what they must do -/
noncomputable def z_nx (T : z_T) (τ : z_K4) : z_K4 := z_tok T τ.2.1
theorem z_tkk_nx {T : z_T} {τ : z_K4} (h : z_tkk T τ) : z_tkk T (z_nx T τ) := z_tkk_tok (by have := h.1; omega) h.1.2.2
/-- a token is a keyword -/
def z_isk (τ : z_K4) (v : Int) : Prop := τ.2.2.1 = 1 ∧ τ.2.2.2 = v
/-! the class's small steps -/
theorem c_isHere {sh : List z_C} {w : z_Mm} {T : z_T} {τ : z_K4} {s : Nat} {K : Int → z_Mm → Prop} (hT : z_isTG sh 0) (hs : s < 16) (h : z_tc w T) (hc : z_ctk w τ) (ht : z_tkk T τ) (k1 : z_isk τ (z_skey s) → K 1 w) (k0 : ¬ z_isk τ (z_skey s) → K 0 w) : z_CI mX4_isHere [z_r 139, z_r (1001 + s)] sh w K := by
  have hR : z_isRea sh 139 := hT.2.2.2.2.2.2.1
  obtain ⟨c1, c2, c3⟩ := hc
  have hk := ht.2.1
  refine z_CIi (t_X4_isHere hR (by omega) ?_)
  rw [c1, c2, c3]
  by_cases q : τ.2.2.1 = 1
  · obtain ⟨l1, l2⟩ := ht.2.2.1 q
    refine ⟨fun _ => ?_, fun c => absurd (by rw [if_neg (by omega), if_pos q]) c⟩
    exact c_spells hT hs h l1 (fun e => ⟨_, _, rfl, rfl, k1 ⟨q, l2.trans e⟩⟩) (fun e => ⟨_, _, rfl, rfl, k0 (fun c => e (l2.symm.trans c.2))⟩)
  · refine ⟨fun c => ?_, fun _ => ⟨_, _, rfl, rfl, k0 (fun c => q c.1)⟩⟩
    exfalso
    revert c
    rw [if_neg (c := τ.2.2.1 = 1) q]
    (repeat' split) <;> omega
theorem c_adv {sh : List z_C} {w : z_Mm} {T : z_T} {τ : z_K4} {K : z_Mm → Prop} (hT : z_isTG sh 0) (h : z_tc w T) (hc : z_ctk w τ) (ht : z_tkk T τ) (k : ∀ w', z_ctk w' (z_nx T τ) → z_f139 w w' → K w') : z_CV mX4_next [z_r 139] sh w K :=
  c_next hT h (p := τ.2.1) (by have := ht.1; omega) ht.1.2.2 (by rw [hc.1, hc.2.1]; omega) k
theorem c_takeWord {sh : List z_C} {w : z_Mm} {T : z_T} {τ : z_K4} {s : Nat} {K : Int → z_Mm → Prop} (hT : z_isTG sh 0) (hs : s < 16) (h : z_tc w T) (hc : z_ctk w τ) (ht : z_tkk T τ) (k1 : z_isk τ (z_skey s) → ∀ w', z_ctk w' (z_nx T τ) → z_f139 w w' → K 1 w') (k0 : ¬ z_isk τ (z_skey s) → K 0 w) : z_CI mX4_takeWord [z_r 139, z_r (1001 + s)] sh w K := by
  have hR : z_isRea sh 139 := hT.2.2.2.2.2.2.1
  refine z_CIi (t_X4_takeWord hR (by omega) (c_isHere hT hs h hc ht (fun e => ⟨fun q => absurd q (by decide), fun _ => ?_⟩) (fun e => ⟨fun _ => ⟨by decide, _, _, rfl, rfl, k0 e⟩, fun q => absurd rfl q⟩)))
  exact c_adv hT h hc ht (fun w' a b => ⟨by decide, _, _, rfl, rfl, k1 e w' a b⟩)
theorem c_takeSemi {sh : List z_C} {w : z_Mm} {T : z_T} {τ : z_K4} {K : Int → z_Mm → Prop} (hT : z_isTG sh 0) (h : z_tc w T) (hc : z_ctk w τ) (ht : z_tkk T τ) (k1 : τ.2.2.1 = 3 → ∀ w', z_ctk w' (z_nx T τ) → z_f139 w w' → K 1 w') (k0 : τ.2.2.1 ≠ 3 → K 0 w) : z_CI mX4_takeSemicolon [z_r 139] sh w K := by
  have hR : z_isRea sh 139 := hT.2.2.2.2.2.2.1
  have hk := ht.2.1
  have c3 := hc.2.2
  refine z_CIi (t_X4_takeSemicolon hR (fun y5 e5 => ?_))
  by_cases q : τ.2.2.1 = 3
  · have e : w 139 3 = 4 := by rw [c3, if_neg (by omega), if_neg (by omega), if_neg (by omega), if_pos q]
    rw [if_pos e] at e5
    subst e5
    exact ⟨fun c => absurd c (by decide), fun _ => c_adv hT h hc ht (fun w' a b => ⟨by decide, _, _, rfl, rfl, k1 q w' a b⟩)⟩
  · have e : ¬ w 139 3 = 4 := by
      rw [c3]
      (repeat' split) <;> omega
    rw [if_neg e] at e5
    subst e5
    exact ⟨fun _ => ⟨by decide, _, _, rfl, rfl, k0 q⟩, fun c => absurd rfl c⟩
theorem c_numberHere {sh : List z_C} {w : z_Mm} {T : z_T} {τ : z_K4} {K : Int → z_Mm → Prop} (hT : z_isTG sh 0) (h : z_tc w T) (hc : z_ctk w τ) (ht : z_tkk T τ) (k : K (if τ.2.2.1 = 2 then τ.2.2.2 else -1) w) : z_CI mX4_numberHere [z_r 139] sh w K := by
  have hR : z_isRea sh 139 := hT.2.2.2.2.2.2.1
  obtain ⟨c1, c2, c3⟩ := hc
  have hk := ht.2.1
  have hs := ht.1
  have h0 := h.1
  refine z_CIi (t_X4_numberHere hR ?_)
  by_cases q : τ.2.2.1 = 2
  · rw [if_pos q] at k
    obtain ⟨⟨d1, d2⟩, d3, d4⟩ := ht.2.2.2 q
    refine ⟨fun _ => ?_, fun c => absurd (by rw [c3, if_neg (by omega), if_neg (by omega), if_pos q]) c⟩
    refine z_for (n := τ.2.1 - τ.1) (i0 := 0) (fun i u => z_Sem mX4_numberHere (sh.length, 0) 14 [(0, z_r 139), (1, z_i (z_dec (fun i => T.2 (τ.1 + i)) i.toNat)), (2, z_i i)] [] (sh, u) _) (fun i u => u = w) (by omega) rfl ?_ ?_
    · rintro u rfl
      rw [← d3]
      exact t_X4_numberHere_14 hR ⟨fun _ => ⟨_, _, rfl, rfl, k⟩, fun c => absurd (Int.le_of_eq c2) c⟩
    · rintro i u i0 i1 rfl kk
      obtain ⟨b1, b2⟩ := h.at (i := τ.1 + i) (by omega) (by omega)
      have rd := d2 i i0 i1
      have rD := z_dec_9 (f := fun i => T.2 (τ.1 + i)) (k := i.toNat) (fun j j0 j1 => d2 j j0 (by omega)) (by omega)
      have kk' := kk u rfl
      rw [show (i + 1).toNat = i.toNat + 1 by omega, z_dec, show ((i.toNat : Nat) : Int) = i by omega] at kk'
      refine t_X4_numberHere_14 hR ⟨fun c => absurd c (by rw [c2]; omega), fun _ => ?_⟩
      rw [c1, b1]
      refine ⟨⟨by omega, by omega⟩, ⟨by omega, by omega⟩, b2, ⟨by omega, by omega⟩, ⟨by omega, by omega⟩, fun y7 e7 => ⟨⟨by omega, by omega⟩, ?_⟩⟩
      rw [show y7 = 10 * z_dec (fun i => T.2 (τ.1 + i)) i.toNat + (T.2 (τ.1 + i) - 48) by omega]
      exact kk'
  · rw [if_neg q] at k
    refine ⟨fun c => ?_, fun _ => ⟨_, _, rfl, rfl, k⟩⟩
    exfalso
    revert c
    rw [c3]
    (repeat' split) <;> omega
theorem c_eventHere {sh : List z_C} {w : z_Mm} {A : z_A} {T : z_T} {τ : z_K4} {K : Int → z_Mm → Prop} (hT : z_isTG sh 0) (h : z_tc w T) (hc : z_ctk w τ) (ht : z_tkk T τ) (hA : z_okg A) (hp : z_pr w 142 A) (k1 : τ.2.2.1 = 1 → z_nmd A τ.2.2.2 ≠ -2 → K (z_nmd A τ.2.2.2) w) (k0 : ¬ (τ.2.2.1 = 1 ∧ z_nmd A τ.2.2.2 ≠ -2) → K (-1) w) : z_CI mX4_eventHere [z_r 139] sh w K := by
  have hR : z_isRea sh 139 := hT.2.2.2.2.2.2.1
  obtain ⟨c1, c2, c3⟩ := hc
  have hk := ht.2.1
  refine z_CIi (t_X4_eventHere hR ?_)
  by_cases q : τ.2.2.1 = 1
  · obtain ⟨l1, l2⟩ := ht.2.2.1 q
    refine ⟨fun _ => ?_, fun c => absurd (by rw [c3, if_neg (by omega), if_pos q]) c⟩
    rw [c1, c2]
    refine c_findEvent hT hR.2.2.1 h l1 hA hp ?_
    rw [← l2]
    by_cases q2 : z_nmd A τ.2.2.2 = -2
    · rw [if_pos q2]
      exact ⟨_, _, rfl, rfl, k0 (fun c => c.2 q2)⟩
    · rw [if_neg q2]
      exact ⟨_, _, rfl, rfl, k1 q q2⟩
  · refine ⟨fun c => ?_, fun _ => ⟨_, _, rfl, rfl, k0 (fun c => q c.1)⟩⟩
    exfalso
    revert c
    rw [c3]
    (repeat' split) <;> omega
theorem c_kindHere {sh : List z_C} {w : z_Mm} {T : z_T} {τ : z_K4} {K : Int → z_Mm → Prop} (hT : z_isTG sh 0) (h : z_tc w T) (hc : z_ctk w τ) (ht : z_tkk T τ) (k0 : z_isk τ 441972 → K 0 w) (k1 : z_isk τ 12748404 → K 1 w) (kn : ¬ z_isk τ 441972 → ¬ z_isk τ 12748404 → K (-1) w) : z_CI mX4_kindHere [z_r 139] sh w K := by
  have hR : z_isRea sh 139 := hT.2.2.2.2.2.2.1
  obtain ⟨-, s1, s2, -⟩ := z_skeys
  refine z_CIi (t_X4_kindHere hR (c_isHere hT (s := 1) (by omega) h hc ht (fun e => ⟨fun q => absurd q (by decide), fun _ => ⟨_, _, rfl, rfl, k0 (s1 ▸ e)⟩⟩) (fun e => ⟨fun _ => ?_, fun q => absurd rfl q⟩)))
  exact c_isHere hT (s := 2) (by omega) h hc ht (fun e2 => ⟨_, _, rfl, rfl, k1 (s2 ▸ e2)⟩) (fun e2 => ⟨_, _, rfl, rfl, kn (s1 ▸ e) (s2 ▸ e2)⟩)
/-! plans as they are read -/
def z_ini (n : Int) : z_A := z_up (z_up (z_up (z_up (fun _ _ => 0) 8 0 (-1)) 9 0 20579924) 1 0 1) 0 0 n
theorem z_ini_v {n : Int} : z_ini n 0 0 = n ∧ z_ini n 1 0 = 1 ∧ z_ini n 2 0 = 0 ∧ z_ini n 8 0 = -1 ∧ z_ini n 9 0 = 20579924 ∧ z_ini n 10 0 = 0 := ⟨rfl, rfl, rfl, rfl, rfl, rfl⟩
theorem z_ini_up {a b : Int} : z_up (z_ini a) 0 0 b = z_ini b := by
  funext c j
  unfold z_ini z_up
  split <;> rfl
theorem z_ok_ini {n : Int} (h : 1 ≤ n ∧ n ≤ 999) : z_ok (z_ini n) := by
  obtain ⟨e0, e1, e2, e8, e9, e10⟩ := z_ini_v (n := n)
  refine ⟨⟨by rw [e0]; exact h, by rw [e1]; omega, by rw [e2]; omega, fun g g0 g1 => absurd g1 (by rw [e2]; omega), fun e h0 h1 => ?_, e8⟩, ⟨fun _ => 0, fun g g0 g1 => absurd g1 (by rw [e2]; omega), fun e h0 h1 => absurd h1 (by rw [e1]; omega), fun e h0 h1 => absurd h1 (by rw [e1]; omega)⟩, fun e h0 h1 => ?_, e9, by rw [e10]; omega⟩
  · rw [e1] at h1
    rw [show e = 0 by omega, e8]
    omega
  · rw [e1] at h1
    rw [show e = 0 by omega, e9]
    refine ⟨5, fun i => z_chr 0 i, by omega, by omega, fun i i0 i1 => ?_, ?_⟩
    · have := (z_slet 0 (by omega)).2 i.toNat (by have : z_len.getD 0 0 = 5 := by decide +kernel
                                                  omega)
      rw [show ((i.toNat : Nat) : Int) = i by omega] at this
      exact this
    · exact z_skeys.1.symm
abbrev z_P3 : Type := Int × z_A × z_K4
noncomputable def z_pen (T : z_T) (τ : z_K4) : z_P3 :=
  @ite _ (z_isk τ 5572) (Classical.propDecidable _) (if (z_nx T τ).2.2.1 = 2 ∧ 1 ≤ (z_nx T τ).2.2.2 then (if (z_nx T (z_nx T τ)).2.2.1 = 3 then (1, z_ini (z_nx T τ).2.2.2, z_nx T (z_nx T (z_nx T τ))) else (0, z_ini 1, z_nx T (z_nx T τ))) else (0, z_ini 1, z_nx T τ)) (0, z_ini 1, τ)
noncomputable def z_pev (T : z_T) (A : z_A) (τ : z_K4) : z_P3 :=
  if A 1 0 = 10 then (0, A, τ) else
  @ite _ ((z_nx T τ).2.2.1 = 1 ∧ ¬ z_kwp (z_nx T τ).2.2.2 ∧ z_nmd A (z_nx T τ).2.2.2 = -2) (Classical.propDecidable _)
    (if (z_nx T (z_nx T τ)).2.2.1 = 3 then (1, z_opn A (z_nx T τ).2.2.2, z_nx T (z_nx T (z_nx T τ))) else (0, A, z_nx T (z_nx T τ))) (0, A, z_nx T τ)
/-- where the reader stands; the draft's rows of yes and no are such -/
def z_ps1 (w : z_Mm) (p : Int) : Prop := w 139 4 = p ∧ ∀ g : Int, 0 ≤ g → g < 24 → 0 ≤ w 150 g ∧ w 150 g ≤ 1
def z_pst2 (w : z_Mm) (r : z_P3) : Prop := z_ps1 w r.2.2.1 ∧ (r.1 ≠ 0 → z_ctk w r.2.2 ∧ z_pr w 142 r.2.1)
def z_f13 (w w' : z_Mm) : Prop := ∀ a : Nat, a ≠ 139 → (a < 142 ∨ 158 < a) → w' a = w a
theorem z_f13.trans {w w1 w2 : z_Mm} (h1 : z_f13 w w1) (h2 : z_f13 w1 w2) : z_f13 w w2 := fun a a1 a2 => (h2 a a1 a2).trans (h1 a a1 a2)
theorem z_f139.f13 {w w' : z_Mm} (h : z_f139 w w') : z_f13 w w' := fun a a1 _ => h a a1
theorem z_tc.f139 {w w' : z_Mm} {T : z_T} (h : z_tc w T) (f : z_f139 w w') : z_tc w' T := h.fr (f 140 (by omega)) (f 141 (by omega))
theorem z_tc.f13 {w w' : z_Mm} {T : z_T} (h : z_tc w T) (f : z_f13 w w') : z_tc w' T := h.fr (f 140 (by omega) (by omega)) (f 141 (by omega) (by omega))
theorem z_pr.f139 {w w' : z_Mm} {A : z_A} (h : z_pr w 142 A) (hA : z_okg A) (f : z_f139 w w') : z_pr w' 142 A := h.fr hA (fun a a0 a1 => f a (by omega))
theorem c_readEnd {sh : List z_C} {w : z_Mm} {T : z_T} {τ : z_K4} {K : Int → z_Mm → Prop} (hT : z_isTG sh 0) (h : z_tc w T) (hc : z_ctk w τ) (ht : z_tkk T τ) (hp : z_pr w 142 (z_ini 100))
    (k : ∀ w', z_pst2 w' (z_pen T τ) → z_f13 w w' → K (z_pen T τ).1 w') : z_CI mX4_readEnd [z_r 139] sh w K := by
  have hR : z_isRea sh 139 := hT.2.2.2.2.2.2.1
  obtain ⟨-, -, -, s3, -⟩ := z_skeys
  have ht1 := z_tkk_nx ht
  unfold z_pen at k
  refine z_CIi (t_X4_readEnd hR (c_takeWord hT (s := 3) (by omega) h hc ht (fun e w1 c1 f1 => ⟨fun q => absurd q (by decide), fun _ => ?_⟩) (fun e => ⟨fun _ => ?_, fun q => absurd rfl q⟩)))
  · rw [if_pos (s3 ▸ e)] at k
    refine c_numberHere hT (h.f139 f1) c1 ht1 ?_
    by_cases q : (z_nx T τ).2.2.1 = 2 ∧ 1 ≤ (z_nx T τ).2.2.2
    · rw [if_pos q] at k
      rw [if_pos q.1]
      have hv := ht1.2.2.2 q.1
      refine ⟨fun _ w7 e7 => ?_, fun c => absurd q.2 c⟩
      have f7 : ∀ a : Nat, a ≠ 142 → w7 a = w1 a := fun a ha => by rw [e7, z_Wf ha]
      have c7 : z_ctk w7 (z_nx T τ) := by unfold z_ctk; rw [f7 139 (by omega)]; exact c1
      have h7 : z_tc w7 T := (h.f139 f1).fr (f7 140 (by omega)) (f7 141 (by omega))
      have p7 : z_pr w7 142 (z_ini (z_nx T τ).2.2.2) := by
        rw [e7, ← z_ini_up (a := 100)]
        exact z_pr_end (hp.f139 (z_ok_ini (by omega)).1 f1)
      have g7 : z_f13 w w7 := f1.f13.trans (fun a a1 a2 => f7 a (by omega))
      have oki := (z_ok_ini (n := (z_nx T τ).2.2.2) ⟨q.2, hv.2.2.2⟩).1
      refine c_adv hT h7 c7 ht1 (fun w8 c8 f8 => ?_)
      have ht2 := z_tkk_nx ht1
      refine c_takeSemi hT (h7.f139 f8) c8 ht2 (fun q2 w9 c9 f9 => ⟨by decide, ?_⟩) (fun q2 => ⟨by decide, ?_⟩)
      · rw [if_pos q2] at k
        exact ⟨_, _, rfl, rfl, k w9 ⟨⟨c9.1, ((p7.f139 oki f8).f139 oki f9).2.2.2⟩, fun _ => ⟨c9, (p7.f139 oki f8).f139 oki f9⟩⟩ ((g7.trans f8.f13).trans f9.f13)⟩
      · rw [if_neg q2] at k
        exact ⟨_, _, rfl, rfl, k w8 ⟨⟨c8.1, (p7.f139 oki f8).2.2.2⟩, fun c => absurd rfl c⟩ (g7.trans f8.f13)⟩
    · rw [if_neg q] at k
      have no : ¬ 1 ≤ (if (z_nx T τ).2.2.1 = 2 then (z_nx T τ).2.2.2 else -1) := by
        split <;> omega
      exact ⟨fun c => absurd c no, fun _ => ⟨_, _, rfl, rfl, k w1 ⟨⟨c1.1, (hp.f139 (z_ok_ini (by omega)).1 f1).2.2.2⟩, fun c => absurd rfl c⟩ f1.f13⟩⟩
  · rw [if_neg (s3 ▸ e)] at k
    exact ⟨_, _, rfl, rfl, k w ⟨⟨hc.1, hp.2.2.2⟩, fun c => absurd rfl c⟩ (fun _ _ _ => rfl)⟩
theorem c_readEvent {sh : List z_C} {w : z_Mm} {A : z_A} {T : z_T} {τ : z_K4} {K : Int → z_Mm → Prop} (hT : z_isTG sh 0) (h : z_tc w T) (hc : z_ctk w τ) (ht : z_tkk T τ) (hA : z_okg A) (hp : z_pr w 142 A)
    (k : ∀ w', z_pst2 w' (z_pev T A τ) → z_f13 w w' → K (z_pev T A τ).1 w') : z_CI mX4_readEvent [z_r 139] sh w K := by
  have hR : z_isRea sh 139 := hT.2.2.2.2.2.2.1
  have r1 := hA.2.1
  have p10 : w 142 10 = A 1 0 := hp.1.2.1
  have ht1 := z_tkk_nx ht
  unfold z_pev at k
  refine z_CIi (t_X4_readEvent hR ⟨fun c => ?_, fun c => ?_⟩)
  · rw [if_pos (by omega)] at k
    exact ⟨_, _, rfl, rfl, k w ⟨⟨hc.1, hp.2.2.2⟩, fun c => absurd rfl c⟩ (fun _ _ _ => rfl)⟩
  rw [if_neg (by omega)] at k
  refine c_adv hT h hc ht (fun w2 c2 f2 => ?_)
  have h2 := h.f139 f2
  have p2 := hp.f139 hA f2
  have hk := ht1.2.1
  have bad : ¬ ((z_nx T τ).2.2.1 = 1 ∧ ¬ z_kwp (z_nx T τ).2.2.2 ∧ z_nmd A (z_nx T τ).2.2.2 = -2) → K 0 w2 := fun q => by
    rw [if_neg q] at k
    exact k w2 ⟨⟨c2.1, p2.2.2.2⟩, fun c => absurd rfl c⟩ f2.f13
  by_cases q : (z_nx T τ).2.2.1 = 1
  · obtain ⟨l1, l2⟩ := ht1.2.2.1 q
    refine ⟨fun _ => ?_, fun c => absurd (by rw [c2.2.2, if_neg (by omega), if_pos q]) c⟩
    rw [c2.1, c2.2.1]
    refine c_isName hT h2 (by have := ht1.1; omega) (by have := ht1.1; omega) (fun _ e => ⟨fun c => absurd c (by decide), fun _ => ?_⟩) (fun e => ⟨fun _ => ⟨_, _, rfl, rfl, bad (fun c => e ⟨l1, by rw [← l2]; exact c.2.1⟩)⟩, fun c => absurd rfl c⟩)
    rw [← l2] at e
    refine c_eventHere hT h2 c2 ht1 hA p2 (fun _ q2 => ⟨fun c => ?_, fun _ => ⟨_, _, rfl, rfl, bad (fun c => q2 c.2.2)⟩⟩) (fun q2 => ⟨fun _ => ?_, fun c => absurd rfl c⟩)
    · have hf := z_fi1_is (p := fun e => A 9 e = (z_nx T τ).2.2.2) (n := A 1 0) (by omega)
      have en : z_nmd A (z_nx T τ).2.2.2 = z_fi1 (fun e => A 9 e = (z_nx T τ).2.2.2) (A 1 0) := rfl
      rcases hf with ⟨x, -⟩ | ⟨x, -⟩ <;> omega
    · have q3 : z_nmd A (z_nx T τ).2.2.2 = -2 := Classical.byContradiction fun c => q2 ⟨q, c⟩
      rw [if_pos ⟨q, e, q3⟩] at k
      rw [c2.1, c2.2.1]
      refine c_addEvent hT hR.2.2.1 (by omega) h2 l1 hA p2 (by omega) (fun w10 p10' f10 => ?_)
      rw [← l2] at p10'
      have hB := z_okg_opn (v := (z_nx T τ).2.2.2) hA (by omega)
      have c10 : z_ctk w10 (z_nx T τ) := by unfold z_ctk; rw [f10 139 (by omega)]; exact c2
      have h10 : z_tc w10 T := h2.fr (f10 140 (by omega)) (f10 141 (by omega))
      have g10 : z_f13 w w10 := f2.f13.trans (fun a a1 a2 => f10 a (by omega))
      refine c_adv hT h10 c10 ht1 (fun w12 c12 f12 => ?_)
      have ht2 := z_tkk_nx ht1
      refine c_takeSemi hT (h10.f139 f12) c12 ht2 (fun q4 w13 c13 f13 => ⟨by decide, ?_⟩) (fun q4 => ⟨by decide, ?_⟩)
      · rw [if_pos q4] at k
        exact ⟨_, _, rfl, rfl, k w13 ⟨⟨c13.1, ((p10'.f139 hB f12).f139 hB f13).2.2.2⟩, fun _ => ⟨c13, (p10'.f139 hB f12).f139 hB f13⟩⟩ ((g10.trans f12.f13).trans f13.f13)⟩
      · rw [if_neg q4] at k
        exact ⟨_, _, rfl, rfl, k w12 ⟨⟨c12.1, (p10'.f139 hB f12).2.2.2⟩, fun c => absurd rfl c⟩ (g10.trans f12.f13)⟩
  · refine ⟨fun c => ?_, fun _ => ⟨_, _, rfl, rfl, bad (fun c => q c.1)⟩⟩
    exfalso
    revert c
    rw [c2.2.2]
    (repeat' split) <;> omega
