/-! NEEDLESS and LEASTEND -/
theorem c_needless {sh : List z_C} {w : z_Mm} {A : z_A} {H : List z_A} {K : Int → z_Mm → Prop} (hT : z_isTG sh 0) (hs : z_cs w A H) (k : ∀ w', z_cs w' A H → z_frC w w' → K (z_fn A) w') : z_CI mX8_needless [z_r 0] sh w K := by
  obtain ⟨hA, hp, hn, -, -⟩ := id hs
  refine z_CIi (t_X8_needless hT ?_)
  refine c_firstNeedless hT hA.1 hA.2.1 hp.1 (hn.nb hA.1 hA.2.1) (Int.le_refl _) hA.1.2.2.1.1 (fun v w1 hv f1 => ⟨_, _, rfl, rfl, ?_⟩)
  rw [← z_fn_of hv]
  exact k w1 (hs.fr f1) (fun a ha => f1 a (by omega))
theorem c_leastEnd {sh : List z_C} {w : z_Mm} {A : z_A} {H : List z_A} {K : Int → z_Mm → Prop} (hT : z_isTG sh 0) (hs : z_cs w A H) (k : K (max 1 (z_ge A (A 1 0).toNat)) w) : z_CI mX8_leastEnd [z_r 0] sh w K := by
  obtain ⟨hA, hp, hn, -, -⟩ := hs
  refine z_CIi (t_X8_leastEnd hT ?_)
  refine c_ge hT hA.1 hA.2.1 hn ⟨_, _, rfl, rfl, ?_⟩
  have e : f_J9_max_7cf53 w 1 (z_ge A (A 1 0).toNat) = max 1 (z_ge A (A 1 0).toNat) := by
    unfold f_J9_max_7cf53
    split <;> omega
  rw [e]
  exact k
theorem z_ge_R {A : z_A} (hA : z_okg A) (hb : z_bears A) : 0 ≤ z_ge A (A 1 0).toNat ∧ z_ge A (A 1 0).toNat ≤ 999 := by
  have r1 := hA.2.1
  refine ⟨z_ge_0 _, ?_⟩
  rcases z_ge_at (A := A) (A 1 0).toNat with q | ⟨e, e01, e2⟩
  · omega
  · rw [e2]
    exact (z_ea_R hA hb e01.1 (by have := e01.2; omega)).2
theorem z_end_ge {A : z_A} (hA : z_okg A) (hb : z_bears A) {n : Int} (hn : 0 ≤ n) : z_bears (z_up A 0 0 n) ↔ z_ge A (A 1 0).toNat ≤ n := by
  have r1 := hA.2.1
  rw [z_end_iff hA hb hn]
  constructor
  · intro h
    rcases z_ge_at (A := A) (A 1 0).toNat with q | ⟨e, e01, e2⟩
    · omega
    · rw [e2]
      exact h e e01.1 (by have := e01.2; omega)
  · intro h e e0 e1
    exact Int.le_trans (z_ge_ub (A := A) (A 1 0).toNat e e0 (by omega)) h
theorem z_upup2 {A : z_A} {ch : Nat} {i v u : Int} : z_up (z_up A ch i v) ch i u = z_up A ch i u := by
  funext c j
  unfold z_up
  split
  · rfl
  · rfl
