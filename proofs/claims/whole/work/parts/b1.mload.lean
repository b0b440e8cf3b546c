/-! THE REFERENCE LOADS -/
theorem z_np_cg {A B : z_A} (h : ∀ e : Int, B 8 e = A 8 e) : ∀ k : Nat, z_np B k = z_np A k
  | 0 => rfl
  | k + 1 => by rw [z_np, z_np, z_np_cg h k, h]
theorem z_pg6_8 {T : z_T} {A : z_A} {one oth kd n on : Int} {τ : z_K4} (e : Int) : (z_pg6 T A one oth kd n on τ).2.1 8 e = A 8 e := by
  unfold z_pg6
  split
  · show z_add A one oth kd n on 8 e = A 8 e
    exact z_add_lt (Or.inr (by decide))
  · rfl
theorem z_pgp_np {T : z_T} {A : z_A} {τ : z_K4} (_ : ¬ (z_pgp T A τ).1 = 0) (k : Nat) : z_np (z_pgp T A τ).2.1 k = z_np A k := by
  refine z_np_cg (fun e => ?_) k
  unfold z_pgp z_pg4
  (repeat' split) <;> first | rfl | exact z_pg6_8 e
def z_nop (A : z_A) : Prop := ∀ e : Int, 0 ≤ e → e < A 1 0 → A 8 e = -1
theorem z_nop_opn {A : z_A} {v : Int} (h : z_nop A) : z_nop (z_opn A v) := by
  intro e e0 e1
  rw [z_opn_1] at e1
  by_cases c : e = A 1 0
  · rw [c, z_opn_8]
  · rw [z_opn_ne (Or.inl (by decide)) (Or.inl (by decide)) (Or.inr c)]
    exact h e e0 (by omega)
theorem z_nop_pev {T : z_T} {A : z_A} {τ : z_K4} (h : z_nop A) : z_nop (z_pev T A τ).2.1 := by
  unfold z_pev
  (repeat' split) <;> first | exact h | exact z_nop_opn h
theorem z_nop_lev {T : z_T} : ∀ (k : Nat) (A : z_A) (τ : z_K4), z_nop A → z_nop (z_lev T k A τ).2.1
  | 0, A, τ, h => h
  | k + 1, A, τ, h => by
    unfold z_lev
    split
    · split
      · exact z_nop_pev h
      · exact z_nop_lev k _ _ (z_nop_pev h)
    · exact h
theorem z_nop_np {A : z_A} (h : z_nop A) : ∀ k : Nat, (k : Int) ≤ A 1 0 → z_np A k = 0
  | 0, _ => rfl
  | k + 1, hk => by
    rw [z_np, z_nop_np h k (by omega), h (k : Int) (by omega) (by omega), if_pos rfl]
    rfl
section ZLD
variable {sh : List z_C} {T : z_T} {Q : Option z_V → z_S → Prop}
theorem m_lev (hM : z_isMod sh 161) (hB : z_tbt T) : ∀ (k : Nat) (A : z_A) (τ : z_K4) (w : z_Mm), A 1 0 + (k : Int) = 11 → z_tr w T → z_al w τ → z_tkk T τ → z_ok A → z_mr (w 163) A →
    (∀ w', z_mps w' (z_lev T k A τ) → z_tkk T (z_lev T k A τ).2.2 → ((z_lev T k A τ).1 ≠ 0 → z_ok (z_lev T k A τ).2.1 ∧ (z_lev T k A τ).2.1 2 0 = A 2 0 ∧ (z_lev T k A τ).2.1 10 0 = A 10 0) → z_fR w w' → z_Sem mX9_load (sh.length, 0) 119 [(0, z_r 161)] [] (sh, w') Q) → z_Sem mX9_load (sh.length, 0) 103 [(0, z_r 161)] [] (sh, w) Q
  | 0, A, τ, w, h11, _, _, _, hA, _, _ => absurd hA.1.2.1.2 (by omega)
  | k + 1, A, τ, w, h11, ht, ha, hk, hA, hm, kk => by
    obtain ⟨e1, e2⟩ := z_keyA (v := 5969364) ha hk (by decide)
    unfold z_lev at kk
    refine t_X9_load_103 hM ⟨fun c => ?_, fun c => ?_⟩
    · rw [if_neg (e1.mp c)] at kk
      exact kk w ⟨fun q => absurd q (show ¬ (1 : Int) = 0 by decide), fun _ => ⟨ha, hm⟩⟩ hk (fun _ => ⟨hA, rfl, rfl⟩) z_fR.rf
    · have yes : z_isk τ 5969364 := Classical.byContradiction fun q => c (e1.mpr q)
      rw [if_pos yes] at kk
      obtain ⟨tk', ok'⟩ := z_pev_ok hA hk
      refine m_readEvent hM ht hB hA.1 hm hk ha (fun w2 p2 f2 => ?_)
      by_cases q : (z_pev T A τ).1 = 0
      · rw [if_pos q] at kk
        exact t_X9_load_103 hM ⟨fun _ => kk w2 p2 tk' (fun c => absurd q c) f2, fun c => absurd (z_key0 (p2.1 q)) c⟩
      · rw [if_neg q] at kk
        obtain ⟨o1, o2, o3, o4, o5, o6⟩ := ok'.resolve_left q
        obtain ⟨a2, m2⟩ := p2.2 q
        exact m_lev hM hB k _ _ w2 (by omega) (ht.R f2) a2 tk' o2 m2 (fun w' x1 x2 x3 x4 => kk w' x1 x2 (fun d => by
          obtain ⟨y1, y2, y3⟩ := x3 d
          exact ⟨y1, y2.trans o4, y3.trans o5⟩) (f2.trans x4))
theorem m_lgp (hM : z_isMod sh 161) (hB : z_tbt T) : ∀ (k : Nat) (A : z_A) (τ : z_K4) (w : z_Mm), A 2 0 + (k : Int) = 25 → z_tr w T → z_al w τ → z_tkk T τ → z_ok A → z_mr (w 163) A →
    (∀ w', z_mps w' (z_lgp T k A τ) → z_tkk T (z_lgp T k A τ).2.2 → ((z_lgp T k A τ).1 ≠ 0 → z_ok (z_lgp T k A τ).2.1 ∧ (z_lgp T k A τ).2.1 10 0 = A 10 0 ∧ z_np (z_lgp T k A τ).2.1 ((z_lgp T k A τ).2.1 1 0).toNat = z_np A (A 1 0).toNat) → z_fR w w' → z_Sem mX9_load (sh.length, 0) 136 [(0, z_r 161)] [] (sh, w') Q) → z_Sem mX9_load (sh.length, 0) 119 [(0, z_r 161)] [] (sh, w) Q
  | 0, A, τ, w, h25, _, _, _, hA, _, _ => absurd hA.1.2.2.1.2 (by omega)
  | k + 1, A, τ, w, h25, ht, ha, hk, hA, hm, kk => by
    obtain ⟨e1, e2⟩ := z_keyA (v := 7216) ha hk (by decide)
    unfold z_lgp at kk
    refine t_X9_load_119 hM ⟨fun c => ?_, fun c => ?_⟩
    · rw [if_neg (e1.mp c)] at kk
      exact kk w ⟨fun q => absurd q (show ¬ (1 : Int) = 0 by decide), fun _ => ⟨ha, hm⟩⟩ hk (fun _ => ⟨hA, rfl, rfl⟩) z_fR.rf
    · have yes : z_isk τ 7216 := Classical.byContradiction fun q => c (e1.mpr q)
      rw [if_pos yes] at kk
      obtain ⟨tk', ok'⟩ := z_pgp_ok hA hk
      refine m_readGap hM ht hB hA.1 hA.2.1 hm hk ha (fun w2 p2 f2 => ?_)
      by_cases q : (z_pgp T A τ).1 = 0
      · rw [if_pos q] at kk
        exact t_X9_load_119 hM ⟨fun _ => kk w2 p2 tk' (fun c => absurd q c) f2, fun c => absurd (z_key0 (p2.1 q)) c⟩
      · rw [if_neg q] at kk
        obtain ⟨o1, o2, o3, o4, o5, o6⟩ := ok'.resolve_left q
        obtain ⟨a2, m2⟩ := p2.2 q
        have np : z_np (z_pgp T A τ).2.1 ((z_pgp T A τ).2.1 1 0).toNat = z_np A (A 1 0).toNat := by
          rw [o3]
          exact z_pgp_np q _
        exact m_lgp hM hB k _ _ w2 (by omega) (ht.R f2) a2 tk' o2 m2 (fun w' x1 x2 x3 x4 => kk w' x1 x2 (fun d => by
          obtain ⟨y1, y2, y3⟩ := x3 d
          exact ⟨y1, y2.trans o5, y3.trans np⟩) (f2.trans x4))
theorem m_lpn (hM : z_isMod sh 161) (hB : z_tbt T) : ∀ (k : Nat) (A : z_A) (τ : z_K4) (w : z_Mm), z_np A (A 1 0).toNat + (k : Int) = 10 → z_tr w T → z_al w τ → z_tkk T τ → z_ok A → z_mr (w 163) A →
    ((z_lpn T k A τ).1 = 0 → ∀ w', z_de w' (z_lpn T k A τ).2.2.1 → z_fR w w' → z_Sem mX9_load (sh.length, 0) 136 [(0, z_r 161)] [] (sh, w') Q) →
    ((z_lpn T k A τ).1 ≠ 0 → ∀ w', z_al w' (z_lpn T k A τ).2.2 → w' 161 17 = 0 → z_ok (z_lpn T k A τ).2.1 → z_mr (w' 163) (z_lpn T k A τ).2.1 → z_fR w w' → z_Sem mX9_load (sh.length, 0) 136 [(0, z_r 161)] [] (sh, w') Q) → z_Sem mX9_load (sh.length, 0) 136 [(0, z_r 161)] [] (sh, w) Q
  | 0, A, τ, w, h10, _, _, _, hA, _, _, _ => by
    have r1 := hA.1.2.1
    have := z_np_lt hA.1 (A 1 0).toNat (by omega)
    omega
  | k + 1, A, τ, w, h10, ht, ha, hk, hA, hm, k0, k1 => by
    have h17 := (z_17 ha hk).2.2.2
    unfold z_lpn at k0 k1
    by_cases c0 : τ.2.2.1 = 0
    · have no : ¬ z_isk τ 16686 := fun q => by have := q.1; omega
      rw [if_neg no, if_pos c0] at k1
      exact k1 (show ¬ (1 : Int) = 0 by decide) w ha (h17.mpr c0) hA hm z_fR.rf
    · refine t_X9_load_136 hM ⟨fun c => absurd c (by rw [ha.1]; decide), fun _ => ⟨fun c => absurd (h17.mp c) c0, fun _ => ?_⟩⟩
      refine m_readPin hM ht hB hA.1 hA.2.1 hm hk ha (fun yes w17 p17 f17 => ?_) (fun no w17 d17 f17 => ?_)
      · rw [if_pos yes] at k0 k1
        obtain ⟨tk', ok'⟩ := z_ppn_ok hA hk
        by_cases q : (z_ppn T A τ).1 = 0
        · rw [if_pos q] at k0
          exact k0 q w17 (p17.1 q) f17
        · rw [if_neg q] at k0 k1
          obtain ⟨o1, o2, o3, o4, o5⟩ := ok'.resolve_left q
          obtain ⟨a2, m2⟩ := p17.2 q
          exact m_lpn hM hB k _ _ w17 (by rw [o3, o5]; omega) (ht.R f17) a2 tk' o2 m2 (fun d w' x1 x2 => k0 d w' x1 (f17.trans x2)) (fun d w' x1 x2 x3 x4 x5 => k1 d w' x1 x2 x3 x4 (f17.trans x5))
      · rw [if_neg no, if_neg c0] at k0
        exact k0 rfl w17 d17 f17
end ZLD
theorem z_mr_ini {w : z_Mm} {n : Int} (h : ∀ j : Int, 0 ≤ j → j < 264 → w 163 j = if j = 0 then n else if j = 1 then 1 else if j = 3 then 20579924 else 0) : z_mr (w 163) (z_ini n) := by
  obtain ⟨i0, i1, i2, i8, i9, i10⟩ := z_ini_v (n := n)
  refine ⟨⟨by rw [h 0 (by omega) (by omega), i0]; rfl, by rw [h 1 (by omega) (by omega), i1]; rfl, by rw [h 2 (by omega) (by omega), i2]; rfl, fun g g0 g1 => absurd g1 (by rw [i2]; omega), fun e e0 e1 => ?_⟩, fun e e0 e1 => ?_, by rw [i10]; omega, by rw [h 143 (by omega) (by omega), i10]; rfl, fun i i0' i1' => absurd i1' (by rw [i10]; omega)⟩
  · rw [i1] at e1
    rw [show e = 0 by omega, i8, h _ (by omega) (by omega)]
    rfl
  · rw [i1] at e1
    rw [show e = 0 by omega, i9, h _ (by omega) (by omega)]
    rfl
theorem m_load {sh : List z_C} {w : z_Mm} {A : z_A} {H : List z_A} {T : z_T} {s : Nat → Option z_A} {K : Int → z_Mm → Prop} (hM : z_isMod sh 161) (hs : z_ms w A H) (hA : z_ok A) (h : z_tr w T) (hB : z_tbt T) (hsl : z_sm w s)
    (k : ∀ w', z_ms w' (z_dld A H T s).2.1 (z_dld A H T s).2.2.1 → z_tr w' (0, T.2) → w' 161 2 = (z_dld A H T s).2.2.2.1 → z_sm w' (z_dld A H T s).2.2.2.2 → (∀ a : Nat, (a < 161 ∨ 176 < a) → w' a = w a) → K (z_dld A H T s).1 w') : z_CI mX9_load [z_r 161] sh w K := by
  have h0 := hB.1
  have hk0 := z_tkk_tok (T := T) (p := 0) (Int.le_refl _) h0.1
  have hk1 := z_tkk_nx hk0
  have hk2 := z_tkk_nx hk1
  unfold z_dld at k
  refine z_CIi (t_X9_load hM ?_)
  refine m_beg hM hs hA.1 (fun w1 s1 m1 f1 _ => ?_)
  have ht1 : z_tr w1 T := h.fr (f1.2 1 (by omega) (by omega)) (f1.1 162 (by omega) (by omega) (by omega) (by omega) (by omega))
  -- the end of a reading that failed
  have dead : ∀ u p, z_de u p → z_fR w1 u → (z_ld0 T).1 = 0 → p = (z_ld0 T).2.2.1 → z_Sem mX9_load (sh.length, 0) 136 [(0, z_r 161)] [] (sh, u) (fun r σ => ∃ (x : Int) (w' : z_Mm), r = some (z_i x) ∧ σ = (sh, w') ∧ K x w') := by
    intro u p d f c ep
    rw [if_pos c] at k
    refine t_X9_load_136 hM ⟨fun _ w2 e2 => ⟨fun _ => ?_, fun q => absurd (by rw [e2, z_W_ne (Or.inr (by decide))]; exact d.1) q⟩, fun q => absurd d.1 q⟩
    have f2 : ∀ a : Nat, a ≠ 161 → w2 a = u a := fun a ha => by rw [e2, z_Wf ha]
    have g2 : ∀ j : Int, j ≠ 1 → w2 161 j = u 161 j := fun j hj => by rw [e2, z_W_ne (Or.inr hj)]
    refine m_fails hM (fun w6 p1 p2 => ⟨_, _, rfl, rfl, k w6 ⟨?_, ?_⟩ ⟨?_, fun i i0 i1 => absurd i1 (by show ¬ i < 0; omega)⟩ ?_ ?_ ?_⟩)
    · rw [f2 164 (by omega), f.1 164 (by omega) (by omega) (by omega)] at p1
      exact m1.cg hA.1 p1
    · exact s1.2.fr (by rw [p2 161 (by omega), g2 8 (by omega), f.2 8 (by omega) (by omega) (by omega)]) (by rw [p2 165 (by omega), f2 165 (by omega), f.1 165 (by omega) (by omega) (by omega)])
    · rw [p2 161 (by omega), e2, z_W_same]
    · rw [p2 161 (by omega), g2 2 (by omega), d.2, ep]
    · refine hsl.fr ?_ ?_
      · rw [p2 166 (by omega), f2 166 (by omega), f.1 166 (by omega) (by omega) (by omega), f1.1 166 (by omega) (by omega) (by omega) (by omega) (by omega)]
      · rw [p2 167 (by omega), f2 167 (by omega), f.1 167 (by omega) (by omega) (by omega), f1.1 167 (by omega) (by omega) (by omega) (by omega) (by omega)]
    · intro a ha
      rw [p2 a (by omega), f2 a (by omega), f.1 a (by omega) (by omega) (by omega), f1.1 a (by omega) (by omega) (by omega) (by omega) (by omega)]
  -- of one that went well
  have good : ∀ u, u 161 20 = 1 → u 161 2 = -2 → u 161 17 = 0 → z_fR w1 u → ¬ (z_ld0 T).1 = 0 → z_ok (z_ld0 T).2.1 → z_mr (u 163) (z_ld0 T).2.1 → z_Sem mX9_load (sh.length, 0) 136 [(0, z_r 161)] [] (sh, u) (fun r σ => ∃ (x : Int) (w' : z_Mm), r = some (z_i x) ∧ σ = (sh, w') ∧ K x w') := by
    intro u u20 u2 u17 f c okB mB
    rw [if_neg c] at k
    refine t_X9_load_136 hM ⟨fun q => absurd q (by rw [u20]; decide), fun _ => ⟨fun _ w10 e10 => ⟨fun q => absurd q (by rw [e10, z_W_ne (Or.inr (by decide)), u20]; decide), fun _ w12 e12 w13 e13 w14 e14 => ?_⟩, fun q => absurd u17 q⟩⟩
    have f14 : ∀ a : Nat, a ≠ 161 → a ≠ 167 → w14 a = u a := fun a a1 a2 => by rw [e14, z_Wf a2, e13, z_Wf a2, e12, z_Wf a1, e10, z_Wf a1]
    have g14 : ∀ j : Int, j ≠ 1 → j ≠ 8 → w14 161 j = u 161 j := fun j j1 j8 => by rw [e14, z_Wf (by omega), e13, z_Wf (by omega), e12, z_W_ne (Or.inr j8), e10, z_W_ne (Or.inr j1)]
    have m14 : z_mr (w14 163) (z_ld0 T).2.1 := by rw [f14 163 (by omega) (by omega)]; exact mB
    rw [m14.1.2.2.1]
    refine ⟨_, _, rfl, rfl, k w14 ⟨m14, ⟨by show 0 ≤ 8; omega, ?_, fun k' C hC => by cases hC⟩⟩ ⟨?_, fun i i0 i1 => absurd i1 (by show ¬ i < 0; omega)⟩ ?_ ?_ ?_⟩
    · rw [e14, z_Wf (by omega), e13, z_Wf (by omega), e12, z_W_same]; rfl
    · rw [e14, z_Wf (by omega), e13, z_Wf (by omega), e12, z_W_ne (Or.inr (by decide)), e10, z_W_same]
    · rw [g14 2 (by omega) (by omega), u2]
    · intro i hi
      refine ⟨fun _ => ?_, fun C hC => by cases hC⟩
      have hi' : i = 0 ∨ i = 1 := by omega
      rcases hi' with rfl | rfl
      · rw [e14, z_W_ne (Or.inr (by decide)), e13]
        exact z_W_same _ _ _ _
      · rw [e14]
        exact z_W_same _ _ _ _
    · intro a ha
      rw [f14 a (by omega) (by omega), f.1 a (by omega) (by omega) (by omega), f1.1 a (by omega) (by omega) (by omega) (by omega) (by omega)]
  -- dead already behind END
  have deadE : ∀ u p, z_de u p → z_fR w1 u → (z_ld0 T).1 = 0 → p = (z_ld0 T).2.2.1 → z_Sem mX9_load (sh.length, 0) 103 [(0, z_r 161)] [] (sh, u) (fun r σ => ∃ (x : Int) (w' : z_Mm), r = some (z_i x) ∧ σ = (sh, w') ∧ K x w') := fun u p d f c ep =>
    t_X9_load_103 hM ⟨fun _ => t_X9_load_119 hM ⟨fun _ => dead u p d f c ep, fun q => absurd (z_key0 d) q⟩, fun q => absurd (z_key0 d) q⟩
  refine z_for (n := 264) (i0 := 0) (fun i v => z_Sem mX9_load (sh.length, 0) 6 [(0, z_r 161), (1, z_i i)] [] (sh, v) _) (fun i v => (∀ c : Nat, c ≠ 163 → v c = w1 c) ∧ ∀ j : Int, 0 ≤ j → j < i → v 163 j = 0) (by omega) ⟨fun _ _ => rfl, fun j j0 j1 => absurd j1 (by omega)⟩ ?_ ?_
  · rintro v ⟨vf, vz⟩
    refine t_X9_load_6 hM ⟨fun _ w2 e2 w3 e3 w4 e4 w5 e5 w6 e6 => ?_, fun c => absurd (Int.le_refl _) c⟩
    have f6 : ∀ a : Nat, a ≠ 161 → a ≠ 163 → w6 a = w1 a := fun a a1 a2 => by rw [e6, z_Wf a1, e5, z_Wf a1, e4, z_Wf a1, e3, z_Wf a2, e2, z_Wf a2, vf a a2]
    have g6 : ∀ j : Int, (j < 15 ∨ 20 < j) → j ≠ 2 → w6 161 j = w1 161 j := fun j j1 j2 => by rw [e6, z_W_ne (Or.inr j2), e5, z_W_ne (Or.inr (by omega)), e4, z_W_ne (Or.inr (by omega)), e3, z_Wf (by omega), e2, z_Wf (by omega), vf 161 (by omega)]
    have r6 : ∀ j : Int, 0 ≤ j → j < 264 → w6 163 j = if j = 1 then 1 else if j = 3 then 20579924 else 0 := fun j j0 j1 => by
      rw [e6, z_Wf (by omega), e5, z_Wf (by omega), e4, z_Wf (by omega), e3]
      by_cases c3 : j = 3
      · rw [c3, z_W_same]; rfl
      · rw [z_W_ne (Or.inr c3), e2]
        by_cases c1 : j = 1
        · rw [c1, z_W_same]; rfl
        · rw [z_W_ne (Or.inr c1), if_neg c1, if_neg c3]
          exact vz j j0 j1
    have fR6 : z_fR w1 w6 := ⟨fun a a1 a2 _ => f6 a a1 a2, fun j j1 j2 _ => g6 j j1 j2⟩
    have ht6 := ht1.R fR6
    have a20 : w6 161 20 = 1 := by rw [e6, z_W_ne (Or.inr (by decide)), e5, z_W_same]
    have a2 : w6 161 2 = -2 := by rw [e6, z_W_same]
    have a15 : w6 161 15 = 0 := by rw [e6, z_W_ne (Or.inr (by decide)), e5, z_W_ne (Or.inr (by decide)), e4, z_W_same]
    refine m_nextToken hM ht6 hB (Int.le_refl _) h0.1 a15 (fun w7 r7 f7 => ?_)
    have al7 : z_al w7 (z_tok T 0) := ⟨by rw [f7.2 20 (by omega)]; exact a20, by rw [f7.2 2 (by omega)]; exact a2, r7⟩
    have ht7 := ht6.f15 f7
    have f07 : z_fR w1 w7 := fR6.trans f7.R
    have c7 : w7 163 = w6 163 := f7.1 163 (by omega)
    obtain ⟨e1, -⟩ := z_keyA (v := 5572) al7 hk0 (by decide)
    by_cases q1 : z_isk (z_tok T 0) 5572
    rotate_left 1
    · rw [e1.mpr q1]
      have el : z_ld0 T = (0, z_ini 1, z_tok T 0) := by
        have ep : z_pen T (z_tok T 0) = (0, z_ini 1, z_tok T 0) := by
          unfold z_pen
          rw [if_neg q1]
        unfold z_ld0
        rw [ep, if_pos rfl]
      refine m_takes0 hM al7 (fun w8 d8 f8 _ => m_numberInD hM d8 (fun w11 e11 => ?_))
      have d11 : z_de w11 (z_tok T 0).1 := ⟨by rw [e11, z_Wf (by omega)]; exact d8.1, by rw [e11, z_Wf (by omega)]; exact d8.2⟩
      exact m_takesD hM d11 (deadE w11 _ d11 ((f07.trans f8).trans (z_fR.c (fun c hc => by rw [e11, z_Wf hc]))) (by rw [el]) (by rw [el]))
    refine m_takes1 hM ht7 hB hk0 al7 (fun q => (e1.mp q) q1) (fun w8 al8 f8 => ?_)
    have ht8 := ht7.f15 f8
    have f08 := f07.trans f8.R
    have c8 : w8 163 = w6 163 := (f8.1 163 (by omega)).trans c7
    refine m_numberIn hM ht8 hB hk1 al8 (fun n1 n2 n3 w9 al9 f9 w11 e11 => ?_) (fun q w9 d9 f9 _ w11 e11 => ?_)
    · have f11 : ∀ c : Nat, c ≠ 163 → w11 c = w9 c := fun c hc => by rw [e11, z_Wf hc]
      have al11 : z_al w11 (z_nx T (z_nx T (z_tok T 0))) := by unfold z_al z_rtk; rw [f11 161 (by omega)]; exact al9
      have ht11 := (ht8.f15 f9).R (z_fR.c f11)
      have f011 := (f08.trans f9.R).trans (z_fR.c f11)
      have m11 : z_mr (w11 163) (z_ini (z_nx T (z_tok T 0)).2.2.2) := by
        refine z_mr_ini (fun j j0 j1 => ?_)
        rw [e11]
        by_cases c : j = 0
        · rw [c, z_W_same]; rfl
        · rw [z_W_ne (Or.inr c), if_neg c, f9.1 163 (by omega), c8]
          exact r6 j j0 j1
      have t17 := (z_17 al11 hk2).2.2.1
      by_cases q3 : (z_nx T (z_nx T (z_tok T 0))).2.2.1 = 3
      · have ep : z_pen T (z_tok T 0) = (1, z_ini (z_nx T (z_tok T 0)).2.2.2, z_nx T (z_nx T (z_nx T (z_tok T 0)))) := by
          unfold z_pen
          rw [if_pos q1, if_pos ⟨n1, n2⟩, if_pos q3]
        have el : z_ld0 T = z_ld1 T (z_ini (z_nx T (z_tok T 0)).2.2.2) (z_nx T (z_nx T (z_nx T (z_tok T 0)))) := by
          unfold z_ld0
          rw [ep, if_neg (show ¬ (1 : Int) = 0 by decide)]
        have okI := z_ok_ini (n := (z_nx T (z_tok T 0)).2.2.2) ⟨n2, n3⟩
        have nopI : z_nop (z_ini (z_nx T (z_tok T 0)).2.2.2) := fun e e0 e1 => by
          have e1' : e < 1 := e1
          rw [show e = 0 by omega]
          rfl
        rw [if_pos (t17.mpr q3)]
        refine m_takes1 hM ht11 hB hk2 al11 (by decide) (fun w16 al16 f16 => ?_)
        have ht16 := ht11.f15 f16
        have m16 : z_mr (w16 163) (z_ini (z_nx T (z_tok T 0)).2.2.2) := by rw [f16.1 163 (by omega)]; exact m11
        have f016 := f011.trans f16.R
        have hk3 := z_tkk_nx hk2
        have h10 : z_ini (z_nx T (z_tok T 0)).2.2.2 1 0 = 1 := rfl
        have h20 : z_ini (z_nx T (z_tok T 0)).2.2.2 2 0 = 0 := rfl
        generalize z_ini (z_nx T (z_tok T 0)).2.2.2 = A0 at el okI nopI m16 h10 h20
        generalize z_nx T (z_nx T (z_nx T (z_tok T 0))) = τ3 at el al16 hk3
        have nopL := z_nop_lev (T := T) 10 A0 τ3 nopI
        unfold z_ld1 at el
        refine m_lev hM hB 10 A0 τ3 w16 (by rw [h10]; rfl) ht16 al16 hk3 okI m16 (fun u pu tku oku fu => ?_)
        have f0u := f016.trans fu
        by_cases d : (z_lev T 10 A0 τ3).1 = 0
        · rw [if_pos d] at el
          exact t_X9_load_119 hM ⟨fun _ => dead u _ (pu.1 d) f0u (by rw [el]; exact d) (by rw [el]), fun q => absurd (z_key0 (pu.1 d)) q⟩
        rw [if_neg d] at el
        obtain ⟨au, mu⟩ := pu.2 d
        obtain ⟨oku1, oku2, -⟩ := oku d
        generalize (z_lev T 10 A0 τ3).2.1 = A1 at el mu oku1 oku2 nopL
        generalize (z_lev T 10 A0 τ3).2.2 = τ4 at el au tku
        unfold z_ld2 at el
        refine m_lgp hM hB 25 A1 τ4 u (by rw [oku2, h20]; rfl) (ht16.R fu) au tku oku1 mu (fun v2 pv tkv okv fv => ?_)
        have f0v := f0u.trans fv
        by_cases d2 : (z_lgp T 25 A1 τ4).1 = 0
        · rw [if_pos d2] at el
          exact dead v2 _ (pv.1 d2) f0v (by rw [el]; exact d2) (by rw [el])
        rw [if_neg d2] at el
        obtain ⟨av, mv⟩ := pv.2 d2
        obtain ⟨okv1, -, okv3⟩ := okv d2
        have np0 : z_np A1 (A1 1 0).toNat = 0 := z_nop_np nopL _ (by have := oku1.1.2.1; omega)
        rw [np0] at okv3
        refine m_lpn hM hB 10 _ _ v2 (by rw [okv3]; rfl) ((ht16.R fu).R fv) av tkv okv1 mv (fun d3 x dx fx => dead x _ dx (f0v.trans fx) (by rw [el]; exact d3) (by rw [el])) (fun d3 x ax a17 okx mx fx => good x ax.1 ax.2.1 a17 (f0v.trans fx) (by rw [el]; exact d3) (by rw [el]; exact okx) (by rw [el]; exact mx))
      · have el : z_ld0 T = (0, z_ini 1, z_nx T (z_nx T (z_tok T 0))) := by
          have ep : z_pen T (z_tok T 0) = (0, z_ini 1, z_nx T (z_nx T (z_tok T 0))) := by
            unfold z_pen
            rw [if_pos q1, if_pos ⟨n1, n2⟩, if_neg q3]
          unfold z_ld0
          rw [ep, if_pos rfl]
        rw [if_neg (fun c => q3 (t17.mp c))]
        exact m_takes0 hM al11 (fun w16 d16 f16 _ => deadE w16 _ d16 (f011.trans f16) (by rw [el]) (by rw [el]))
    · have nq : ¬ ((z_nx T (z_tok T 0)).2.2.1 = 2 ∧ 1 ≤ (z_nx T (z_tok T 0)).2.2.2) := fun c => q ⟨c.1, c.2, (hk1.2.2.2 c.1).2.2.2⟩
      have el : z_ld0 T = (0, z_ini 1, z_nx T (z_tok T 0)) := by
        have ep : z_pen T (z_tok T 0) = (0, z_ini 1, z_nx T (z_tok T 0)) := by
          unfold z_pen
          rw [if_pos q1, if_neg nq]
        unfold z_ld0
        rw [ep, if_pos rfl]
      have d11 : z_de w11 (z_nx T (z_tok T 0)).1 := ⟨by rw [e11, z_Wf (by omega)]; exact d9.1, by rw [e11, z_Wf (by omega)]; exact d9.2⟩
      exact m_takesD hM d11 (deadE w11 _ d11 ((f08.trans f9).trans (z_fR.c (fun c hc => by rw [e11, z_Wf hc]))) (by rw [el]) (by rw [el]))
  · rintro i v i0 i1 ⟨vf, vz⟩ kk
    refine t_X9_load_6 hM ⟨fun c => absurd c (by omega), fun _ => ⟨⟨by omega, by omega⟩, fun w17 e17 => ⟨⟨by omega, by omega⟩, kk w17 ⟨fun c hc => by rw [e17, z_Wf hc, vf c hc], fun j j0 j1 => ?_⟩⟩⟩⟩
    rw [e17]
    by_cases c : j = i
    · subst c; rw [z_W_same]
    · rw [z_W_ne (Or.inr c)]; exact vz j j0 (by omega)
