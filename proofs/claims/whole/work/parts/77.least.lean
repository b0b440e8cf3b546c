/-! NEEDLESS and LEASTEND -/
theorem c_needless {sh : List z_C} {w : z_Mm} {A : z_A} {H : List z_A} {K : Int → z_Mm → Prop} (hT : z_isTG sh 0) (hs : z_cs w A H) (k : ∀ w', z_cs w' A H → z_frC w w' → K (z_fn A) w') : z_CI mX8_needless [z_r 0] sh w K := by
  obtain ⟨hA, hp, hn, -, -⟩ := id hs
  refine z_CIi (t_X8_needless hT ?_)
  refine c_firstNeedless hT hA.1 hA.2.1 hp.1 (hn.nb hA.1 hA.2.1) (Int.le_refl _) hA.1.2.2.1.1 (fun v w1 hv f1 => ⟨_, _, rfl, rfl, ?_⟩)
  rw [← z_fn_of hv]
  exact k w1 (hs.fr f1) (fun a ha => f1 a (by omega))
theorem m_needless {sh : List z_C} {w : z_Mm} {A : z_A} {H : List z_A} {K : Int → z_Mm → Prop} (hM : z_isMod sh 161) (hs : z_ms w A H) (hA : z_okg A) (hb : z_bears A) (k : ∀ w', z_ms w' A H → z_frM w w' → K (z_fn A) w') : z_CI mX9_needless [z_r 161] sh w K := by
  refine z_CIi (t_X9_needless hM ?_)
  refine m_firstNeedless hM hA hb hs.1 (fun v w1 hv m1 f1 => ⟨_, _, rfl, rfl, ?_⟩)
  rw [← z_fn_of hv]
  exact k w1 (hs.I m1 f1) f1.M
theorem c_leastEnd {sh : List z_C} {w : z_Mm} {A : z_A} {H : List z_A} {K : Int → z_Mm → Prop} (hT : z_isTG sh 0) (hs : z_cs w A H) (k : K (max 1 (z_ge A (A 1 0).toNat)) w) : z_CI mX8_leastEnd [z_r 0] sh w K := by
  obtain ⟨hA, hp, hn, -, -⟩ := hs
  refine z_CIi (t_X8_leastEnd hT ?_)
  refine c_ge hT hA.1 hA.2.1 hn ⟨_, _, rfl, rfl, ?_⟩
  have e : f_J9_max_7cf53 w 1 (z_ge A (A 1 0).toNat) = max 1 (z_ge A (A 1 0).toNat) := by
    unfold f_J9_max_7cf53
    split <;> omega
  rw [e]
  exact k
theorem z_ge_R {A : z_A} (hA : z_okg A) (hb : z_bears A) : 0 ≤ z_ge A (A 1 0).toNat ∧ z_ge A (A 1 0).toNat ≤ 999 := by
  have r1 := hA.2.1
  refine ⟨z_ge_0 _, ?_⟩
  rcases z_ge_at (A := A) (A 1 0).toNat with q | ⟨e, e01, e2⟩
  · omega
  · rw [e2]
    exact (z_ea_R hA hb e01.1 (by have := e01.2; omega)).2
theorem z_end_ge {A : z_A} (hA : z_okg A) (hb : z_bears A) {n : Int} (hn : 0 ≤ n) : z_bears (z_up A 0 0 n) ↔ z_ge A (A 1 0).toNat ≤ n := by
  have r1 := hA.2.1
  rw [z_end_iff hA hb hn]
  constructor
  · intro h
    rcases z_ge_at (A := A) (A 1 0).toNat with q | ⟨e, e01, e2⟩
    · omega
    · rw [e2]
      exact h e e01.1 (by have := e01.2; omega)
  · intro h e e0 e1
    exact Int.le_trans (z_ge_ub (A := A) (A 1 0).toNat e e0 (by omega)) h
theorem z_upup2 {A : z_A} {ch : Nat} {i v u : Int} : z_up (z_up A ch i v) ch i u = z_up A ch i u := by
  funext c j
  unfold z_up
  split
  · rfl
  · rfl
theorem m_leastEnd {sh : List z_C} {w : z_Mm} {A : z_A} {H : List z_A} {K : Int → z_Mm → Prop} (hM : z_isMod sh 161) (hs : z_ms w A H) (hA : z_okg A) (hb : z_bears A) (k : ∀ w', z_ms w' A H → z_frM w w' → K (max 1 (z_ge A (A 1 0).toNat)) w') : z_CI mX9_leastEnd [z_r 161] sh w K := by
  have rg := z_ge_R hA hb
  refine z_CIi (t_X9_leastEnd hM ?_)
  refine m_beg hM hs hA (fun w1 q1 q2 q3 q4 => fun w2 e2 => ?_)
  have main : ∀ (m : Nat) (x : Int) (u : z_Mm), (max 1 (z_ge A (A 1 0).toNat) - x).toNat = m → 1 ≤ x → x ≤ max 1 (z_ge A (A 1 0).toNat) → z_mr (u 163) (z_up A 0 0 x) → z_mr (u 164) A → z_hm u H → z_frM w u →
      z_Sem mX9_leastEnd (sh.length, 0) 13 [(0, z_r 161), (1, z_i x)] [] (sh, u) (fun r σ => ∃ (x : Int) (w' : z_Mm), r = some (z_i x) ∧ σ = (sh, w') ∧ K x w') := by
    intro m
    induction m with
    | zero =>
      intro x u hm x1 x2 um u4 uh uf
      have ex : x = max 1 (z_ge A (A 1 0).toNat) := by omega
      refine t_X9_leastEnd_13 hM ?_
      refine m_lays hM (z_okg_end hA (by omega)) um.1 (fun b w3 _ _ f3 hh _ => ?_)
      rcases hh with ⟨b1, -, -⟩ | ⟨-, nb⟩
      · refine ⟨fun c => absurd c (by omega), fun _ => ?_⟩
        refine m_fails hM (fun w4 p1 p2 => ⟨_, _, rfl, rfl, ?_⟩)
        rw [ex]
        rw [f3.1 164 (by omega) (by omega)] at p1
        exact k w4 ⟨u4.cg hA p1, (uh.fr (f3.2 8 (by decide)) (f3.1 165 (by omega) (by omega))).fr (by rw [p2 161 (by omega)]) (p2 165 (by omega))⟩ ((uf.trans f3.M).trans (z_frM.of (a := 163) (by omega) p2))
      · exact absurd ((z_end_ge hA hb (by omega)).mpr (by omega)) nb
    | succ m ih =>
      intro x u hm x1 x2 um u4 uh uf
      refine t_X9_leastEnd_13 hM ?_
      refine m_lays hM (z_okg_end hA (by omega)) um.1 (fun b w3 _ _ f3 hh _ => ?_)
      rcases hh with ⟨-, hb3, -⟩ | ⟨b0, -⟩
      · have := (z_end_ge hA hb (by omega)).mp hb3
        omega
      · refine ⟨fun _ => ⟨⟨by omega, by omega⟩, fun w7 e7 => ?_⟩, fun c => absurd b0 c⟩
        have um3 : z_mr (w3 163) (z_up A 0 0 x) := z_mr.I um (f3.1 163 (by omega) (by omega))
        refine ih (x + 1) w7 (by omega) (by omega) (by omega) ?_ (by rw [e7, z_Wf (by omega), f3.1 164 (by omega) (by omega)]; exact u4) ((uh.fr (f3.2 8 (by decide)) (f3.1 165 (by omega) (by omega))).fr (by rw [e7, z_Wf (by omega)]) (by rw [e7, z_Wf (by omega)])) ((uf.trans f3.M).trans (by rw [e7]; exact z_frM.of (a := 163) (by omega) (fun c hc => z_Wf hc)))
        have := z_mr_end (n := x + 1) um3 (z_okg_end hA (by omega))
        rw [z_upup2] at this
        rw [e7]
        exact this
  refine main _ 1 w2 rfl (by omega) (by omega) (by rw [e2]; exact z_mr_end q1.1 hA) (by rw [e2, z_Wf (by omega)]; exact q2) (q1.2.fr (by rw [e2, z_Wf (by omega)]) (by rw [e2, z_Wf (by omega)])) (q3.trans (by rw [e2]; exact z_frM.of (a := 163) (by omega) (fun c hc => z_Wf hc)))
