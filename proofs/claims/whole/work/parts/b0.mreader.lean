/-! THE REFERENCE'S READER -/
def z_fR (w w' : z_Mm) : Prop := (∀ a : Nat, a ≠ 161 → a ≠ 163 → (a < 168 ∨ 172 < a) → w' a = w a) ∧ ∀ j : Int, (j < 15 ∨ 20 < j) → j ≠ 2 → j ≠ 13 → w' 161 j = w 161 j
theorem z_fR.rf {w : z_Mm} : z_fR w w := ⟨fun _ _ _ _ => rfl, fun _ _ _ _ => rfl⟩
theorem z_fR.trans {w w1 w2 : z_Mm} (h1 : z_fR w w1) (h2 : z_fR w1 w2) : z_fR w w2 := ⟨fun a a1 a2 a3 => (h2.1 a a1 a2 a3).trans (h1.1 a a1 a2 a3), fun j j1 j2 j3 => (h2.2 j j1 j2 j3).trans (h1.2 j j1 j2 j3)⟩
theorem z_f15.R {w w' : z_Mm} (h : z_f15 w w') : z_fR w w' := ⟨fun a a1 _ _ => h.1 a a1, fun j j1 _ _ => h.2 j (by omega)⟩
theorem z_fR.c {w w' : z_Mm} (h : ∀ c : Nat, c ≠ 163 → w' c = w c) : z_fR w w' := ⟨fun a _ a2 _ => h a a2, fun j _ _ _ => by rw [h 161 (by omega)]⟩
theorem z_frL.R {w w' : z_Mm} (h : z_frL w w') : z_fR w w' := ⟨fun a a1 _ a3 => h.1 a a1 a3, fun j _ _ j3 => h.2 j j3⟩
theorem z_tr.R {w w' : z_Mm} {T : z_T} (h : z_tr w T) (f : z_fR w w') : z_tr w' T := h.fr (f.2 1 (by omega) (by omega) (by omega)) (f.1 162 (by omega) (by omega) (by omega))
/-- reading goes on; it has ended at a place -/
def z_al (w : z_Mm) (τ : z_K4) : Prop := w 161 20 = 1 ∧ w 161 2 = -2 ∧ z_rtk w τ
def z_de (w : z_Mm) (p : Int) : Prop := w 161 20 = 0 ∧ w 161 2 = p
theorem m_takesD {sh : List z_C} {w : z_Mm} {p x : Int} {K : z_Mm → Prop} (hM : z_isMod sh 161) (h : z_de w p) (k : K w) : z_CV mX9_takes [z_r 161, z_i x] sh w K :=
  z_CVi (t_X9_takes hM ⟨fun _ => ⟨fun _ => ⟨_, rfl, rfl, k⟩, fun c => absurd h.1 c⟩, fun c => absurd h.1 c⟩)
theorem m_takes0 {sh : List z_C} {w : z_Mm} {τ : z_K4} {K : z_Mm → Prop} (hM : z_isMod sh 161) (h : z_al w τ) (k : ∀ w', z_de w' τ.1 → z_fR w w' → (∀ c : Nat, c ≠ 161 → w' c = w c) → K w') : z_CV mX9_takes [z_r 161, z_i 0] sh w K := by
  obtain ⟨a1, a2, a3⟩ := h
  refine z_CVi (t_X9_takes hM ⟨fun c => absurd c (by omega), fun _ => ⟨fun _ w7 e7 w8 e8 => ?_, fun c => absurd rfl c⟩⟩)
  have e20 : w8 161 20 = 0 := by rw [e8, z_W_ne (Or.inr (by decide)), e7, z_W_same]
  have e716 : w7 161 16 = τ.1 := by rw [e7, z_W_ne (Or.inr (by decide))]; exact a3.1
  have e2 : w8 161 2 = τ.1 := by rw [e8, z_W_same, e716]
  have fc : ∀ c : Nat, c ≠ 161 → w8 c = w c := fun c hc => by rw [e8, z_Wf hc, e7, z_Wf hc]
  exact ⟨fun _ => ⟨_, rfl, rfl, k w8 ⟨e20, e2⟩ ⟨fun a h1 _ _ => fc a h1, fun j j1 j2 _ => by rw [e8, z_W_ne (Or.inr j2), e7, z_W_ne (Or.inr (by omega))]⟩ fc⟩, fun c => absurd e20 c⟩
theorem m_takes1 {sh : List z_C} {w : z_Mm} {T : z_T} {τ : z_K4} {x : Int} {K : z_Mm → Prop} (hM : z_isMod sh 161) (ht : z_tr w T) (hB : z_tbt T) (hk : z_tkk T τ) (h : z_al w τ) (hx : x ≠ 0) (k : ∀ w', z_al w' (z_nx T τ) → z_f15 w w' → K w') : z_CV mX9_takes [z_r 161, z_i x] sh w K := by
  obtain ⟨a1, a2, a3⟩ := h
  refine z_CVi (t_X9_takes hM ⟨fun c => absurd c (by omega), fun _ => ⟨fun c => absurd c hx, fun _ => ⟨fun c => absurd c (by omega), fun _ => ?_⟩⟩⟩)
  exact m_nextToken hM ht hB (p := τ.2.1) (by have := hk.1; omega) hk.1.2.2 a3.2.1 (fun w' r f => ⟨_, rfl, rfl, k w' ⟨by rw [f.2 20 (by omega)]; exact a1, by rw [f.2 2 (by omega)]; exact a2, r⟩ f⟩)
theorem z_key0 {w : z_Mm} {p v : Int} (h : z_de w p) : f_X9_isKey w v = 0 := if_pos h.1
theorem z_keyA {w : z_Mm} {T : z_T} {τ : z_K4} {v : Int} (h : z_al w τ) (hk : z_tkk T τ) (hv : 0 < v) : (f_X9_isKey w v = 0 ↔ ¬ z_isk τ v) ∧ (f_X9_isKey w v = 0 ∨ f_X9_isKey w v = 1) := by
  obtain ⟨a1, a2, a3, a4, a5, a6, a7, a8⟩ := h
  have hr := hk.2.1
  unfold f_X9_isKey z_isk
  rw [if_neg (by omega), a5]
  by_cases c1 : τ.2.2.1 = 1
  · rw [if_neg (c := τ.2.2.1 = 5) (by omega), if_pos c1, a6 c1]
    split
    · rename_i q; exact ⟨⟨fun c => absurd c (by decide), fun c => absurd ⟨c1, q⟩ c⟩, Or.inr rfl⟩
    · rename_i q; exact ⟨⟨fun _ c => q c.2, fun _ => rfl⟩, Or.inl rfl⟩
  · by_cases c5 : τ.2.2.1 = 5
    · rw [if_pos c5, if_pos rfl, a7 c5, if_neg (by omega)]
      exact ⟨⟨fun _ c => c1 c.1, fun _ => rfl⟩, Or.inl rfl⟩
    · rw [if_neg c5, if_neg c1]
      exact ⟨⟨fun _ c => c1 c.1, fun _ => rfl⟩, Or.inl rfl⟩
theorem z_17 {w : z_Mm} {T : z_T} {τ : z_K4} (h : z_al w τ) (hk : z_tkk T τ) : (w 161 17 = 1 ↔ (τ.2.2.1 = 1 ∨ τ.2.2.1 = 5)) ∧ (w 161 17 = 2 ↔ τ.2.2.1 = 2) ∧ (w 161 17 = 3 ↔ τ.2.2.1 = 3) ∧ (w 161 17 = 0 ↔ τ.2.2.1 = 0) := by
  have hr := hk.2.1
  rw [h.2.2.2.2.1]
  by_cases c5 : τ.2.2.1 = 5
  · rw [if_pos c5]
    omega
  · rw [if_neg c5]
    omega
theorem m_named0 {sh : List z_C} {w : z_Mm} {A : z_A} {v : Int} {K : Int → z_Mm → Prop} (hM : z_isMod sh 161) (hA : z_okg A) (hm : z_mr (w 163) A) (hv : v ≤ 0) (k : K (-2) w) : z_CI mX9_named [z_r 161, z_i v] sh w K := by
  have r1 := hA.2.1
  have p1 : w 163 1 = A 1 0 := hm.1.2.1
  refine z_CIi (t_X9_named hM ?_)
  refine z_for (n := A 1 0) (i0 := 0) (fun i u => z_Sem mX9_named (sh.length, 0) 2 [(0, z_r 161), (1, z_i v), (2, z_i i)] [] (sh, u) _) (fun i u => u = w) (by omega) rfl ?_ ?_
  · rintro u rfl
    exact t_X9_named_2 hM ⟨fun _ => ⟨_, _, rfl, rfl, k⟩, fun q => absurd (Int.le_of_eq p1) q⟩
  · rintro i u i0 i1 rfl kk
    exact t_X9_named_2 hM ⟨fun q => absurd q (by omega), fun _ => ⟨fun _ => ⟨⟨by omega, by omega⟩, kk u rfl⟩, fun q => absurd hv q⟩⟩
theorem z_tkv {T : z_T} {τ : z_K4} (hk : z_tkk T τ) (h : τ.2.2.1 = 1) : 1 ≤ τ.2.2.2 ∧ τ.2.2.2 < 33554432 := by
  obtain ⟨l1, l2⟩ := hk.2.2.1 h
  rw [l2]
  exact z_tw_R l1
/-- the name that a token tells -/
theorem m_tkNamed {sh : List z_C} {w : z_Mm} {T : z_T} {A : z_A} {τ : z_K4} {K : Int → z_Mm → Prop} (hM : z_isMod sh 161) (hA : z_okg A) (hm : z_mr (w 163) A) (hk : z_tkk T τ) (h : z_al w τ) (h17 : w 161 17 = 1) (k : K (if τ.2.2.1 = 1 then z_nmd A τ.2.2.2 else -2) w) : z_CI mX9_named [z_r 161, z_i (w 161 18)] sh w K := by
  rcases ((z_17 h hk).1.mp h17) with q | q
  · rw [if_pos q] at k
    rw [h.2.2.2.2.2.1 q]
    have := z_tkv hk q
    exact m_named hM hA hm (by omega) k
  · rw [if_neg (by omega)] at k
    rw [h.2.2.2.2.2.2.1 q]
    exact m_named0 hM hA hm (Int.le_refl _) k
theorem m_eventName {sh : List z_C} {w : z_Mm} {T : z_T} {A : z_A} {τ : z_K4} {x : Int} {K : Int → z_Mm → Prop} (hM : z_isMod sh 161) (ht : z_tr w T) (hB : z_tbt T) (hA : z_okg A) (hm : z_mr (w 163) A) (hk : z_tkk T τ) (h : z_al w τ)
    (k1 : τ.2.2.1 = 1 → z_nmd A τ.2.2.2 ≠ -2 → z_nmd A τ.2.2.2 ≠ x → ∀ w', z_al w' (z_nx T τ) → z_mr (w' 163) A → z_fR w w' → K (z_nmd A τ.2.2.2) w')
    (k0 : ¬ (τ.2.2.1 = 1 ∧ z_nmd A τ.2.2.2 ≠ -2 ∧ z_nmd A τ.2.2.2 ≠ x) → ∀ w', z_de w' τ.1 → z_fR w w' → K 0 w') : z_CI mX9_readEventName [z_r 161, z_i x] sh w K := by
  have r1 := hA.2.1
  have z2 : (if (-2 : Int) < 0 then (0 : Int) else if (-2 : Int) = x then 0 else 1) = 0 := if_pos (by decide)
  refine z_CIi (t_X9_readEventName hM ⟨fun c => absurd c (by rw [h.1]; decide), fun _ => ⟨fun c17 => ?_, fun c17 => ?_⟩⟩)
  · refine m_tkNamed hM hA hm hk h c17 ?_
    by_cases q : τ.2.2.1 = 1 ∧ z_nmd A τ.2.2.2 ≠ -2 ∧ z_nmd A τ.2.2.2 ≠ x
    · have rn := (z_nmd_R (A := A) (v := τ.2.2.2) r1.1).resolve_left q.2.1
      rw [if_pos q.1, if_neg (by omega), if_neg q.2.2]
      refine m_takes1 hM ht hB hk h (by decide) (fun w' a f => ?_)
      rw [if_neg (by rw [a.1]; decide)]
      exact ⟨_, _, rfl, rfl, k1 q.1 q.2.1 q.2.2 w' a (by rw [f.1 163 (by omega)]; exact hm) f.R⟩
    · have e0 : (if (if τ.2.2.1 = 1 then z_nmd A τ.2.2.2 else -2) < 0 then (0 : Int) else if (if τ.2.2.1 = 1 then z_nmd A τ.2.2.2 else -2) = x then 0 else 1) = 0 := by
        by_cases q1 : τ.2.2.1 = 1
        · rw [if_pos q1]
          by_cases q2 : z_nmd A τ.2.2.2 = -2
          · rw [if_pos (by omega)]
          · have q3 : z_nmd A τ.2.2.2 = x := Classical.byContradiction fun c => q ⟨q1, q2, c⟩
            rw [if_pos q3]
            split <;> rfl
        · rw [if_neg q1]
          exact z2
      rw [e0]
      refine m_takes0 hM h (fun w' d f _ => ?_)
      rw [if_pos d.1]
      exact ⟨_, _, rfl, rfl, k0 q w' d f⟩
  · rw [z2]
    refine m_takes0 hM h (fun w' d f _ => ?_)
    rw [if_pos d.1]
    exact ⟨_, _, rfl, rfl, k0 (fun q => c17 ((z_17 h hk).1.mpr (Or.inl q.1))) w' d f⟩
theorem m_eventNameD {sh : List z_C} {w : z_Mm} {p x : Int} {K : Int → z_Mm → Prop} (hM : z_isMod sh 161) (h : z_de w p) (k : K 0 w) : z_CI mX9_readEventName [z_r 161, z_i x] sh w K := by
  refine z_CIi (t_X9_readEventName hM ⟨fun _ => m_takesD hM h ?_, fun c => absurd h.1 c⟩)
  rw [if_pos h.1]
  exact ⟨_, _, rfl, rfl, k⟩
theorem m_numberIn {sh : List z_C} {w : z_Mm} {T : z_T} {τ : z_K4} {lo hi : Int} {K : Int → z_Mm → Prop} (hM : z_isMod sh 161) (ht : z_tr w T) (hB : z_tbt T) (hk : z_tkk T τ) (h : z_al w τ)
    (k1 : τ.2.2.1 = 2 → lo ≤ τ.2.2.2 → τ.2.2.2 ≤ hi → ∀ w', z_al w' (z_nx T τ) → z_f15 w w' → K τ.2.2.2 w')
    (k0 : ¬ (τ.2.2.1 = 2 ∧ lo ≤ τ.2.2.2 ∧ τ.2.2.2 ≤ hi) → ∀ w', z_de w' τ.1 → z_fR w w' → (∀ c : Nat, c ≠ 161 → w' c = w c) → K lo w') : z_CI mX9_numberIn [z_r 161, z_i lo, z_i hi] sh w K := by
  have a1 := h.1
  have h17 := (z_17 h hk).2.1
  refine z_CIi (t_X9_numberIn hM (fun y1 e1 => ?_))
  rw [if_neg (by omega)]
  by_cases q : τ.2.2.1 = 2 ∧ lo ≤ τ.2.2.2 ∧ τ.2.2.2 ≤ hi
  · have ey : y1 = τ.2.2.2 := by rw [e1]; exact h.2.2.2.2.2.2.2 q.1
    rw [if_pos (h17.mpr q.1), if_neg (c := f_X9_in w y1 lo hi = 0) (fun c => (z_fin.mp c) (by rw [ey]; exact q.2))]
    refine m_takes1 hM ht hB hk h (by decide) (fun w' a f => ?_)
    rw [if_neg (by rw [a.1]; decide), ey]
    exact ⟨_, _, rfl, rfl, k1 q.1 q.2.1 q.2.2 w' a f⟩
  · have e0 : (if w 161 17 = 2 then (if f_X9_in w y1 lo hi = 0 then (0 : Int) else 1) else 0) = 0 := by
      by_cases q1 : w 161 17 = 2
      · have q2 := h17.mp q1
        have ey : y1 = τ.2.2.2 := by rw [e1]; exact h.2.2.2.2.2.2.2 q2
        rw [if_pos q1, if_pos (z_fin.mpr (fun c => q ⟨q2, by rw [← ey]; exact c⟩))]
      · rw [if_neg q1]
    rw [e0]
    refine m_takes0 hM h (fun w' d f fc => ?_)
    rw [if_pos d.1]
    exact ⟨_, _, rfl, rfl, k0 q w' d f fc⟩
theorem m_numberInD {sh : List z_C} {w : z_Mm} {p lo hi : Int} {K : Int → z_Mm → Prop} (hM : z_isMod sh 161) (h : z_de w p) (k : K lo w) : z_CI mX9_numberIn [z_r 161, z_i lo, z_i hi] sh w K := by
  refine z_CIi (t_X9_numberIn hM (fun y1 e1 => m_takesD hM h ?_))
  rw [if_pos h.1]
  exact ⟨_, _, rfl, rfl, k⟩
/-- behind a step of the reference's reader -/
def z_mps (w : z_Mm) (r : z_P3) : Prop := (r.1 = 0 → z_de w r.2.2.1) ∧ (r.1 ≠ 0 → z_al w r.2.2 ∧ z_mr (w 163) r.2.1)
theorem m_readEvent {sh : List z_C} {w : z_Mm} {T : z_T} {A : z_A} {τ : z_K4} {K : z_Mm → Prop} (hM : z_isMod sh 161) (ht : z_tr w T) (hB : z_tbt T) (hA : z_okg A) (hm : z_mr (w 163) A) (hk : z_tkk T τ) (h : z_al w τ)
    (k : ∀ w', z_mps w' (z_pev T A τ) → z_fR w w' → K w') : z_CV mX9_readEvent [z_r 161] sh w K := by
  have r1 := hA.2.1
  have p1 : w 163 1 = A 1 0 := hm.1.2.1
  have hk1 := z_tkk_nx hk
  have hk2 := z_tkk_nx hk1
  unfold z_pev at k
  have one : ∀ w' A' τ', z_al w' τ' → z_mr (w' 163) A' → z_mps w' (1, A', τ') := fun w' A' τ' a b => ⟨fun c => absurd c (show ¬ (1 : Int) = 0 by decide), fun _ => ⟨a, b⟩⟩
  have zer : ∀ w' A' τ', z_de w' τ'.1 → z_mps w' (0, A', τ') := fun w' A' τ' a => ⟨fun _ => a, fun c => absurd rfl c⟩
  refine z_CVi (t_X9_readEvent hM ?_)
  rw [p1]
  by_cases c0 : A 1 0 = 10
  · rw [if_pos c0] at k
    rw [if_pos (by omega)]
    refine m_takes0 hM h (fun w5 d5 f5 _ y6 _ => ⟨fun _ => m_takesD hM d5 ?_, fun q => absurd d5.1 q⟩)
    rw [if_pos d5.1]
    exact m_takesD hM d5 ⟨fun _ => ⟨_, rfl, rfl, k w5 (zer _ _ _ d5) f5⟩, fun q => absurd d5.1 q⟩
  rw [if_neg c0] at k
  rw [if_neg (by omega)]
  refine m_takes1 hM ht hB hk h (by decide) (fun w5 a5 f5 y6 e6 => ⟨fun q => absurd q (by rw [a5.1]; decide), fun _ => ?_⟩)
  have ht5 := ht.f15 f5
  have hm5 : z_mr (w5 163) A := by rw [f5.1 163 (by omega)]; exact hm
  obtain ⟨k17, -, k3, -⟩ := z_17 a5 hk1
  have bad : ∀ u, u = w5 → ¬ ((z_nx T τ).2.2.1 = 1 ∧ ¬ z_kwp (z_nx T τ).2.2.2 ∧ z_nmd A (z_nx T τ).2.2.2 = -2) → z_CV mX9_takes [z_r 161, z_i 0] sh u (fun w36 => z_CV mX9_takes [z_r 161, z_i (if (w36 161 20) = 0 then 0 else if (w36 161 17) = 3 then 1 else 0)] sh w36 (fun w45 => (((w45 161 20) = 0 → ∃ w' : z_Mm, (none : Option z_V) = none ∧ ((sh, w45) : z_S) = (sh, w') ∧ K w') ∧ (¬ (w45 161 20) = 0 → z_CV mX9_opens [z_r 161, z_i y6] sh w45 (fun w47 => ∃ w' : z_Mm, (none : Option z_V) = none ∧ ((sh, w47) : z_S) = (sh, w') ∧ K w'))))) := by
    rintro u rfl q
    rw [if_neg q] at k
    refine m_takes0 hM a5 (fun v d f _ => ?_)
    rw [if_pos d.1]
    exact m_takesD hM d ⟨fun _ => ⟨_, rfl, rfl, k v (zer _ _ _ d) (f5.R.trans f)⟩, fun q => absurd d.1 q⟩
  refine ⟨fun q17 => ?_, fun q17 => bad w5 rfl (fun c => q17 (k17.mpr (Or.inl c.1)))⟩
  rcases k17.mp q17 with q | q
  · have rv := z_tkv hk1 q
    have ey : y6 = (z_nx T τ).2.2.2 := by rw [e6]; exact a5.2.2.2.2.2.1 q
    subst ey
    refine m_isName (fun _ e => ⟨fun c => absurd c (by decide), fun _ => ?_⟩) (fun e => ⟨fun _ => bad w5 rfl (fun c => e ⟨by omega, c.2.1⟩), fun c => absurd rfl c⟩)
    refine m_named hM hA hm5 (by omega) ?_
    by_cases q2 : z_nmd A (z_nx T τ).2.2.2 = -2
    · rw [if_pos ⟨q, e, q2⟩] at k
      rw [q2, if_neg (by decide)]
      refine m_takes1 hM ht5 hB hk1 a5 (by decide) (fun w54 a54 f54 => ?_)
      have ht54 := ht5.f15 f54
      have hm54 : z_mr (w54 163) A := by rw [f54.1 163 (by omega)]; exact hm5
      obtain ⟨-, -, k3', -⟩ := z_17 a54 hk2
      rw [if_neg (c := w54 161 20 = 0) (by rw [a54.1]; decide)]
      by_cases q3 : (z_nx T (z_nx T τ)).2.2.1 = 3
      · rw [if_pos q3] at k
        rw [if_pos (k3'.mpr q3)]
        refine m_takes1 hM ht54 hB hk2 a54 (by decide) (fun w63 a63 f63 => ⟨fun c => absurd c (by rw [a63.1]; decide), fun _ => ?_⟩)
        have hm63 : z_mr (w63 163) A := by rw [f63.1 163 (by omega)]; exact hm54
        refine m_opens hM hA (by omega) hm63 (fun w65 o65 f65 => ⟨_, rfl, rfl, k w65 (one _ _ _ ?_ o65) (((f5.R.trans f54.R).trans f63.R).trans (z_fR.c f65))⟩)
        unfold z_al z_rtk
        rw [f65 161 (by omega)]
        exact a63
      · rw [if_neg q3] at k
        rw [if_neg (fun c => q3 (k3'.mp c))]
        refine m_takes0 hM a54 (fun w63 d f _ => ⟨fun _ => ⟨_, rfl, rfl, k w63 (zer _ _ _ d) ((f5.R.trans f54.R).trans f)⟩, fun c => absurd d.1 c⟩)
    · have rn := (z_nmd_R (A := A) (v := (z_nx T τ).2.2.2) r1.1).resolve_left q2
      rw [if_pos rn.1]
      exact bad w5 rfl (fun c => q2 c.2.2)
  · have ey : y6 = 0 := by rw [e6]; exact a5.2.2.2.2.2.2.1 q
    subst ey
    refine m_isName (fun c _ => absurd c (by decide)) (fun _ => ⟨fun _ => bad w5 rfl (fun c => by have := c.1; omega), fun c => absurd rfl c⟩)
def z_gpt (sh : List z_C) (K : z_Mm → Prop) (y7 y9 y14 y25 : Int) (w24 : z_Mm) : Prop := ∀ y26 : Int, y26 = (f_X9_isKey w24 15558) → ((y26 = 0 → (((w24 161 20) = 0 → (((w24 161 20) = 0 → z_CV mX9_takes [z_r 161, z_i 0] sh w24 (fun w30 => K w30)) ∧ (¬ (w24 161 20) = 0 → (((w24 161 17) = 3 → z_CI mX9_lays [z_r 161] sh w24 (fun y34 w33 => z_CV mX9_takes [z_r 161, z_i (if y34 = 0 then 0 else 1)] sh w33 (fun w39 => K w39))) ∧ (¬ (w24 161 17) = 3 → z_CV mX9_takes [z_r 161, z_i 0] sh w24 (fun w32 => K w32)))))) ∧ (¬ (w24 161 20) = 0 → z_CI mX9_comes [z_r 161, z_i y7, z_i y9, z_i y14, z_i y25, z_i (if y26 = 0 then 1 else 0)] sh w24 (fun y45 w44 => (((w44 161 20) = 0 → z_CV mX9_takes [z_r 161, z_i 0] sh w44 (fun w47 => K w47)) ∧ (¬ (w44 161 20) = 0 → (((w44 161 17) = 3 → z_CI mX9_lays [z_r 161] sh w44 (fun y51 w50 => z_CV mX9_takes [z_r 161, z_i (if y51 = 0 then 0 else 1)] sh w50 (fun w56 => K w56))) ∧ (¬ (w44 161 17) = 3 → z_CV mX9_takes [z_r 161, z_i 0] sh w44 (fun w49 => K w49))))))))) ∧ (¬ y26 = 0 → z_CV mX9_takes [z_r 161, z_i 1] sh w24 (fun w57 => (((w57 161 20) = 0 → (((w57 161 20) = 0 → z_CV mX9_takes [z_r 161, z_i 0] sh w57 (fun w60 => K w60)) ∧ (¬ (w57 161 20) = 0 → (((w57 161 17) = 3 → z_CI mX9_lays [z_r 161] sh w57 (fun y64 w63 => z_CV mX9_takes [z_r 161, z_i (if y64 = 0 then 0 else 1)] sh w63 (fun w69 => K w69))) ∧ (¬ (w57 161 17) = 3 → z_CV mX9_takes [z_r 161, z_i 0] sh w57 (fun w62 => K w62)))))) ∧ (¬ (w57 161 20) = 0 → z_CI mX9_comes [z_r 161, z_i y7, z_i y9, z_i y14, z_i y25, z_i (if y26 = 0 then 1 else 0)] sh w57 (fun y75 w74 => (((w74 161 20) = 0 → z_CV mX9_takes [z_r 161, z_i 0] sh w74 (fun w77 => K w77)) ∧ (¬ (w74 161 20) = 0 → (((w74 161 17) = 3 → z_CI mX9_lays [z_r 161] sh w74 (fun y81 w80 => z_CV mX9_takes [z_r 161, z_i (if y81 = 0 then 0 else 1)] sh w80 (fun w86 => K w86))) ∧ (¬ (w74 161 17) = 3 → z_CV mX9_takes [z_r 161, z_i 0] sh w74 (fun w79 => K w79)))))))))))
def z_pnt (sh : List z_C) (K : z_Mm → Prop) (y81 y94 : Int) (w93 : z_Mm) : Prop := (((w93 161 20) = 0 → (((w93 161 20) = 0 → z_CV mX9_takes [z_r 161, z_i 0] sh w93 (fun w97 => K w97)) ∧ (¬ (w93 161 20) = 0 → (((w93 161 17) = 3 → z_CI mX9_lays [z_r 161] sh w93 (fun y101 w100 => z_CV mX9_takes [z_r 161, z_i (if y101 = 0 then 0 else 1)] sh w100 (fun w106 => K w106))) ∧ (¬ (w93 161 17) = 3 → z_CV mX9_takes [z_r 161, z_i 0] sh w93 (fun w99 => K w99)))))) ∧ (¬ (w93 161 20) = 0 → (z_R (133 + y81)) ∧ (z_R (y94 + 1)) ∧ ((0 : Int) ≤ (133 + y81) ∧ (133 + y81) < 264) ∧ ∀ w109 : Nat → Int → Int, w109 = z_W w93 163 (133 + y81) (y94 + 1) → (((w109 161 20) = 0 → z_CV mX9_takes [z_r 161, z_i 0] sh w109 (fun w112 => K w112)) ∧ (¬ (w109 161 20) = 0 → (((w109 161 17) = 3 → z_CI mX9_lays [z_r 161] sh w109 (fun y116 w115 => z_CV mX9_takes [z_r 161, z_i (if y116 = 0 then 0 else 1)] sh w115 (fun w121 => K w121))) ∧ (¬ (w109 161 17) = 3 → z_CV mX9_takes [z_r 161, z_i 0] sh w109 (fun w114 => K w114)))))))
theorem m_tail {sh : List z_C} {w : z_Mm} {T : z_T} {B : z_A} {τ : z_K4} {K : z_Mm → Prop} (hM : z_isMod sh 161) (ht : z_tr w T) (hB : z_tbt T) (hA : z_okg B) (hm : z_mr (w 163) B) (hk : z_tkk T τ) (h : z_al w τ)
    (k1 : τ.2.2.1 = 3 → z_bears B → ∀ w', z_al w' (z_nx T τ) → z_mr (w' 163) B → z_fR w w' → K w') (k0 : ¬ (τ.2.2.1 = 3 ∧ z_bears B) → ∀ w', z_de w' τ.1 → z_fR w w' → K w') :
    (((w 161 20) = 0 → z_CV mX9_takes [z_r 161, z_i 0] sh w (fun w47 => K w47)) ∧ (¬ (w 161 20) = 0 → (((w 161 17) = 3 → z_CI mX9_lays [z_r 161] sh w (fun y51 w50 => z_CV mX9_takes [z_r 161, z_i (if y51 = 0 then 0 else 1)] sh w50 (fun w56 => K w56))) ∧ (¬ (w 161 17) = 3 → z_CV mX9_takes [z_r 161, z_i 0] sh w (fun w49 => K w49))))) := by
  obtain ⟨-, -, k3, -⟩ := z_17 h hk
  refine ⟨fun c => absurd c (by rw [h.1]; decide), fun _ => ⟨fun c => ?_, fun c => m_takes0 hM h (fun w' d f _ => k0 (fun q => c (k3.mpr q.1)) w' d f)⟩⟩
  refine m_lays hM hA hm.1 (fun b w1 q1 q2 f hh1 _ => ?_)
  have a1 : z_al w1 τ := by
    unfold z_al z_rtk
    rw [f.2 20 (by omega), f.2 2 (by omega), f.2 16 (by omega), f.2 15 (by omega), f.2 17 (by omega), f.2 18 (by omega), f.2 19 (by omega)]
    exact h
  have m1 : z_mr (w1 163) B := by rw [f.1 163 (by omega) (by omega)]; exact hm
  have t1 : z_tr w1 T := ht.R f.R
  rcases hh1 with ⟨b1, hbB, -⟩ | ⟨b1, nb⟩
  · rw [b1, if_neg (by decide)]
    exact m_takes1 hM t1 hB hk a1 (by decide) (fun w' a f' => k1 (k3.mp c) hbB w' a (by rw [f'.1 163 (by omega)]; exact m1) (f.R.trans f'.R))
  · rw [b1, if_pos rfl]
    exact m_takes0 hM a1 (fun w' d f' _ => k0 (fun q => nb q.2) w' d (f.R.trans f'))
theorem m_gptD {sh : List z_C} {K : z_Mm → Prop} {y7 y9 y14 y25 p : Int} {u : z_Mm} (hM : z_isMod sh 161) (h : z_de u p) (k : K u) : z_gpt sh K y7 y9 y14 y25 u := by
  intro y26 e26
  have e0 : y26 = 0 := e26.trans (z_key0 h)
  exact ⟨fun _ => ⟨fun _ => ⟨fun _ => m_takesD hM h k, fun q => absurd h.1 q⟩, fun q => absurd h.1 q⟩, fun q => absurd e0 q⟩
theorem m_gptA {sh : List z_C} {T : z_T} {K : z_Mm → Prop} {A : z_A} {one oth kd n : Int} {τ : z_K4} {u : z_Mm} (hM : z_isMod sh 161) (ht : z_tr u T) (hB : z_tbt T) (hA : z_okg A) (hb : z_bears A) (h24 : A 2 0 < 24) (b1 : z_bl (A 1 0) one) (b2 : z_bl (A 1 0) oth) (hne : one ≠ oth) (hkd : 0 ≤ kd ∧ kd ≤ 1) (hn : 0 ≤ n ∧ n ≤ 999) (hm : z_mr (u 163) A) (hk : z_tkk T τ) (h : z_al u τ)
    (k : ∀ w' r, (r = (@ite _ (z_isk τ 15558) (Classical.propDecidable _) (z_pg6 T A one oth kd n 0 (z_nx T τ)) (z_pg6 T A one oth kd n 1 τ))) → z_mps w' r → z_fR u w' → K w') : z_gpt sh K one oth kd n u := by
  have hk1 := z_tkk_nx hk
  obtain ⟨e1, e2⟩ := z_keyA (v := 15558) h hk (by decide)
  intro y26 e26
  refine ⟨fun c => ⟨fun q => absurd q (by rw [h.1]; decide), fun _ => ?_⟩, fun c => ?_⟩
  · have no := e1.mp (e26.symm.trans c)
    rw [if_neg no] at k
    rw [if_pos c]
    refine m_comes hM hA h24 hm (fun w44 m44 f44 => ?_)
    have a44 : z_al w44 τ := by unfold z_al z_rtk; rw [f44 161 (by omega)]; exact h
    refine m_tail hM (ht.R (z_fR.c f44)) hB (z_okg_add hA h24 b1 b2 hne hkd hn (by omega)) m44 hk a44 (fun q1 q2 w' a m f => k w' _ rfl ?_ ((z_fR.c f44).trans f)) (fun q w' d f => k w' _ rfl ?_ ((z_fR.c f44).trans f))
    · unfold z_pg6
      rw [if_pos ⟨q1, Or.inr q2⟩]
      exact ⟨fun c => absurd c (show ¬ (1 : Int) = 0 by decide), fun _ => ⟨a, m⟩⟩
    · unfold z_pg6
      rw [if_neg (fun c => q ⟨c.1, c.2.resolve_left (by decide)⟩)]
      exact ⟨fun _ => d, fun c => absurd rfl c⟩
  · have yes : z_isk τ 15558 := Classical.byContradiction fun q => c (e26.trans (e1.mpr q))
    rw [if_pos yes] at k
    refine m_takes1 hM ht hB hk h (by decide) (fun w57 a57 f57 => ?_)
    have ht57 := ht.f15 f57
    have hm57 : z_mr (w57 163) A := by rw [f57.1 163 (by omega)]; exact hm
    refine ⟨fun q => absurd q (by rw [a57.1]; decide), fun _ => ?_⟩
    rw [if_neg c]
    refine m_comes hM hA h24 hm57 (fun w74 m74 f74 => ?_)
    have a74 : z_al w74 (z_nx T τ) := by unfold z_al z_rtk; rw [f74 161 (by omega)]; exact a57
    have bB : z_bears (z_add A one oth kd n 0) := by
      obtain ⟨x, hx⟩ := hb
      exact ⟨x, z_F_add0.mpr hx⟩
    refine m_tail hM (ht57.R (z_fR.c f74)) hB (z_okg_add hA h24 b1 b2 hne hkd hn (by omega)) m74 hk1 a74 (fun q1 q2 w' a m f => k w' _ rfl ?_ ((f57.R.trans (z_fR.c f74)).trans f)) (fun q w' d f => k w' _ rfl ?_ ((f57.R.trans (z_fR.c f74)).trans f))
    · unfold z_pg6
      rw [if_pos ⟨q1, Or.inl rfl⟩]
      exact ⟨fun c => absurd c (show ¬ (1 : Int) = 0 by decide), fun _ => ⟨a, m⟩⟩
    · unfold z_pg6
      rw [if_neg (fun c => q ⟨c.1, bB⟩)]
      exact ⟨fun _ => d, fun c => absurd rfl c⟩
theorem m_readGap {sh : List z_C} {w : z_Mm} {T : z_T} {A : z_A} {τ : z_K4} {K : z_Mm → Prop} (hM : z_isMod sh 161) (ht : z_tr w T) (hB : z_tbt T) (hA : z_okg A) (hb : z_bears A) (hm : z_mr (w 163) A) (hk : z_tkk T τ) (h : z_al w τ)
    (k : ∀ w', z_mps w' (z_pgp T A τ) → z_fR w w' → K w') : z_CV mX9_readGap [z_r 161] sh w K := by
  have r1 := hA.2.1
  have r2 := hA.2.2.1
  have p2 : w 163 2 = A 2 0 := hm.1.2.2.1
  have hk1 := z_tkk_nx hk
  have hk2 := z_tkk_nx hk1
  have hk3 := z_tkk_nx hk2
  have hk4 := z_tkk_nx hk3
  have hk5 := z_tkk_nx hk4
  unfold z_pgp at k
  have zer : ∀ w' A' τ', z_de w' τ'.1 → z_mps w' (0, A', τ') := fun w' A' τ' a => ⟨fun _ => a, fun c => absurd rfl c⟩
  refine z_CVi (t_X9_readGap hM ?_)
  rw [p2]
  by_cases c0 : A 2 0 = 24
  · rw [if_pos c0] at k
    rw [if_pos (by omega)]
    exact m_takes0 hM h (fun w5 d5 f5 _ => m_eventNameD hM d5 (m_eventNameD hM d5 (fun y14 _ => m_takesD hM d5 (m_numberInD hM d5 (m_gptD (K := fun u => ∃ w' : z_Mm, (none : Option z_V) = none ∧ ((sh, u) : z_S) = (sh, w') ∧ K w') hM d5 ⟨_, rfl, rfl, k w5 (zer _ _ _ d5) f5⟩)))))
  rw [if_neg c0] at k
  rw [if_neg (by omega)]
  refine m_takes1 hM ht hB hk h (by decide) (fun w5 a5 f5 => ?_)
  have ht5 := ht.f15 f5
  have hm5 : z_mr (w5 163) A := by rw [f5.1 163 (by omega)]; exact hm
  refine m_eventName hM ht5 hB hA hm5 hk1 a5 (fun q1 q2 _ w6 a6 m6 f6 => ?_) (fun q w6 d6 f6 => ?_)
  rotate_left 1
  · have q' : ¬ ((z_nx T τ).2.2.1 = 1 ∧ z_nmd A (z_nx T τ).2.2.2 ≠ -2) := fun c => q ⟨c.1, c.2, c.2⟩
    rw [if_neg q'] at k
    exact m_eventNameD hM d6 (fun y14 _ => m_takesD hM d6 (m_numberInD hM d6 (m_gptD (K := fun u => ∃ w' : z_Mm, (none : Option z_V) = none ∧ ((sh, u) : z_S) = (sh, w') ∧ K w') hM d6 ⟨_, rfl, rfl, k w6 (zer _ _ _ d6) (f5.R.trans f6)⟩)))
  rw [if_pos ⟨q1, q2⟩] at k
  have b1 : z_bl (A 1 0) (z_nmd A (z_nx T τ).2.2.2) := (z_nmd_R r1.1).resolve_left q2
  have f06 := f5.R.trans f6
  have ht6 := ht5.R f6
  refine m_eventName hM ht6 hB hA m6 hk2 a6 (fun q3 q4 q5 w8 a8 m8 f8 => ?_) (fun q w8 d8 f8 => ?_)
  rotate_left 1
  · rw [if_neg q] at k
    exact fun y14 _ => m_takesD hM d8 (m_numberInD hM d8 (m_gptD (K := fun u => ∃ w' : z_Mm, (none : Option z_V) = none ∧ ((sh, u) : z_S) = (sh, w') ∧ K w') hM d8 ⟨_, rfl, rfl, k w8 (zer _ _ _ d8) (f06.trans f8)⟩))
  rw [if_pos ⟨q3, q4, q5⟩] at k
  have b2 : z_bl (A 1 0) (z_nmd A (z_nx T (z_nx T τ)).2.2.2) := (z_nmd_R r1.1).resolve_left q4
  have f08 := f06.trans f8
  have ht8 := ht6.R f8
  obtain ⟨m1, m1'⟩ := z_keyA (v := 441972) a8 hk3 (by decide)
  obtain ⟨m2, m2'⟩ := z_keyA (v := 12748404) a8 hk3 (by decide)
  intro y14 e14
  by_cases c3 : z_isk (z_nx T (z_nx T (z_nx T τ))) 441972 ∨ z_isk (z_nx T (z_nx T (z_nx T τ))) 12748404
  rotate_left 1
  · rw [if_neg c3] at k
    rw [if_pos (m1.mpr (fun q => c3 (Or.inl q))), if_pos (m2.mpr (fun q => c3 (Or.inr q)))]
    exact m_takes0 hM a8 (fun w23 d23 f23 _ => m_numberInD hM d23 (m_gptD (K := fun u => ∃ w' : z_Mm, (none : Option z_V) = none ∧ ((sh, u) : z_S) = (sh, w') ∧ K w') hM d23 ⟨_, rfl, rfl, k w23 (zer _ _ _ d23) (f08.trans f23)⟩))
  rw [if_pos c3] at k
  have ek : y14 = z_kdv (z_nx T (z_nx T (z_nx T τ))) := by
    unfold z_kdv
    rw [e14]
    by_cases q : z_isk (z_nx T (z_nx T (z_nx T τ))) 441972
    · rw [if_pos q, if_pos (m2.mpr (fun c => by have := c.2; have := q.2; omega))]
    · rw [if_neg q, if_neg (fun c => (m2.mp c) (c3.resolve_left q))]
  have hkd : 0 ≤ y14 ∧ y14 ≤ 1 := by
    rw [e14]
    split <;> omega
  have hx : (if f_X9_isKey w8 441972 = 0 then (if f_X9_isKey w8 12748404 = 0 then (0 : Int) else 1) else 1) ≠ 0 := by
    by_cases q : f_X9_isKey w8 441972 = 0
    · rw [if_pos q, if_neg (fun c => (m2.mp c) (c3.resolve_left (m1.mp q)))]
      decide
    · rw [if_neg q]
      decide
  rw [← ek] at k
  refine m_takes1 hM ht8 hB hk3 a8 hx (fun w23 a23 f23 => ?_)
  have ht23 := ht8.f15 f23
  have hm23 : z_mr (w23 163) A := by rw [f23.1 163 (by omega)]; exact m8
  have f023 := f08.trans f23.R
  unfold z_pg4 at k
  refine m_numberIn hM ht23 hB hk4 a23 (fun n1 n2 n3 w24 a24 f24 => ?_) (fun q w24 d24 f24 _ => ?_)
  · rw [if_pos n1] at k
    have hm24 : z_mr (w24 163) A := by rw [f24.1 163 (by omega)]; exact hm23
    exact m_gptA (K := fun u => ∃ w' : z_Mm, (none : Option z_V) = none ∧ ((sh, u) : z_S) = (sh, w') ∧ K w') hM (ht23.f15 f24) hB hA hb (by omega) b1 b2 (Ne.symm q5) hkd ⟨n2, n3⟩ hm24 hk5 a24 (fun w' r er pr f => ⟨_, rfl, rfl, k w' (er ▸ pr) ((f023.trans f24.R).trans f)⟩)
  · have n1 : ¬ (z_nx T (z_nx T (z_nx T (z_nx T τ)))).2.2.1 = 2 := fun c => q ⟨c, (hk4.2.2.2 c).2.2⟩
    rw [if_neg n1] at k
    exact m_gptD (K := fun u => ∃ w' : z_Mm, (none : Option z_V) = none ∧ ((sh, u) : z_S) = (sh, w') ∧ K w') hM d24 ⟨_, rfl, rfl, k w24 (zer _ _ _ d24) (f023.trans f24)⟩
theorem m_pntD {sh : List z_C} {K : z_Mm → Prop} {y81 y94 p : Int} {u : z_Mm} (hM : z_isMod sh 161) (h : z_de u p) (k : K u) : z_pnt sh K y81 y94 u :=
  ⟨fun _ => ⟨fun _ => m_takesD hM h k, fun q => absurd h.1 q⟩, fun q => absurd h.1 q⟩
theorem m_readPin {sh : List z_C} {w : z_Mm} {T : z_T} {A : z_A} {τ : z_K4} {K : z_Mm → Prop} (hM : z_isMod sh 161) (ht : z_tr w T) (hB : z_tbt T) (hA : z_okg A) (hb : z_bears A) (hm : z_mr (w 163) A) (hk : z_tkk T τ) (h : z_al w τ)
    (k1 : z_isk τ 16686 → ∀ w', z_mps w' (z_ppn T A τ) → z_fR w w' → K w') (k0 : ¬ z_isk τ 16686 → ∀ w', z_de w' τ.1 → z_fR w w' → K w') : z_CV mX9_readPin [z_r 161] sh w K := by
  have r0 := hA.1
  have r1 := hA.2.1
  have hk1 := z_tkk_nx hk
  have hk2 := z_tkk_nx hk1
  have hk3 := z_tkk_nx hk2
  obtain ⟨e1, e2⟩ := z_keyA (v := 16686) h hk (by decide)
  have zer : ∀ w' A' τ', z_de w' τ'.1 → z_mps w' (0, A', τ') := fun w' A' τ' a => ⟨fun _ => a, fun c => absurd rfl c⟩
  have z2 : ∀ x : Int, (if (-2 : Int) ≤ 0 then (0 : Int) else x) = 0 := fun x => if_pos (by decide)
  refine z_CVi (t_X9_readPin hM ?_)
  by_cases c : z_isk τ 16686
  rotate_left 1
  · rw [e1.mpr c]
    refine m_takes0 hM h (fun w1 d1 f1 _ => ⟨fun _ => ⟨fun q => absurd (show (-2 : Int) ≤ 0 by decide) q, m_takesD hM d1 (m_numberInD hM d1 ?_)⟩, fun q => absurd d1.1 q⟩)
    exact ⟨fun _ => ⟨fun _ => m_takesD hM d1 ⟨_, rfl, rfl, k0 c w1 d1 f1⟩, fun q => absurd d1.1 q⟩, fun q => absurd d1.1 q⟩
  have k := k1 c
  unfold z_ppn at k
  refine m_takes1 hM ht hB hk h (fun q => (e1.mp q) c) (fun w1 a1 f1 => ⟨fun q => absurd q (by rw [a1.1]; decide), fun _ => ?_⟩)
  have ht1 := ht.f15 f1
  have hm1 : z_mr (w1 163) A := by rw [f1.1 163 (by omega)]; exact hm
  obtain ⟨k17, -, -, -⟩ := z_17 a1 hk1
  refine ⟨fun q17 => ?_, fun q17 => ?_⟩
  rotate_left 1
  · have q' : ¬ ((z_nx T τ).2.2.1 = 1 ∧ 0 < z_nmd A (z_nx T τ).2.2.2 ∧ A 8 (z_nmd A (z_nx T τ).2.2.2) = -1) := fun q => q17 (k17.mpr (Or.inl q.1))
    rw [if_neg q'] at k
    refine ⟨fun q => absurd (show (-2 : Int) ≤ 0 by decide) q, ?_⟩
    rw [z2]
    refine m_takes0 hM a1 (fun w2 d2 f2 _ => m_numberInD hM d2 ?_)
    exact ⟨fun _ => ⟨fun _ => m_takesD hM d2 ⟨_, rfl, rfl, k w2 (zer _ _ _ d2) (f1.R.trans f2)⟩, fun q => absurd d2.1 q⟩, fun q => absurd d2.1 q⟩
  refine m_tkNamed hM hA hm1 hk1 a1 q17 ?_
  by_cases q : (z_nx T τ).2.2.1 = 1 ∧ 0 < z_nmd A (z_nx T τ).2.2.2 ∧ A 8 (z_nmd A (z_nx T τ).2.2.2) = -1
  rotate_left 1
  · rw [if_neg q] at k
    have hy : ∀ y : Int, y = (if (z_nx T τ).2.2.1 = 1 then z_nmd A (z_nx T τ).2.2.2 else -2) → (¬ y ≤ 0 → s_X9_isPinned w1 y ∧ True) ∧ (if y ≤ 0 then (0 : Int) else if f_X9_isPinned w1 y = 0 then 1 else 0) = 0 := by
      intro y ey
      by_cases q1 : (z_nx T τ).2.2.1 = 1
      · rw [if_pos q1] at ey
        rcases z_nmd_R (A := A) (v := (z_nx T τ).2.2.2) r1.1 with x | x
        · exact ⟨fun d => absurd d (by omega), if_pos (by omega)⟩
        · refine ⟨fun d => ⟨⟨⟨by omega, by omega⟩, ⟨by omega, by omega⟩, True.intro⟩, True.intro⟩, ?_⟩
          by_cases q2 : y ≤ 0
          · rw [if_pos q2]
          · rw [if_neg q2, ey, z_fmip hA hm1.1 x.1 x.2, if_neg (c := (if A 8 (z_nmd A (z_nx T τ).2.2.2) = -1 then (0 : Int) else 1) = 0)]
            have : ¬ A 8 (z_nmd A (z_nx T τ).2.2.2) = -1 := fun d => q ⟨q1, by omega, d⟩
            rw [if_neg this]
            decide
      · rw [if_neg q1] at ey
        exact ⟨fun d => absurd d (by omega), if_pos (by omega)⟩
    obtain ⟨h1, h2⟩ := hy _ rfl
    refine ⟨h1, ?_⟩
    rw [h2]
    exact m_takes0 hM a1 (fun w2 d2 f2 _ => m_numberInD hM d2 (m_pntD (K := fun u => ∃ w' : z_Mm, (none : Option z_V) = none ∧ ((sh, u) : z_S) = (sh, w') ∧ K w') hM d2 ⟨_, rfl, rfl, k w2 (zer _ _ _ d2) (f1.R.trans f2)⟩))
  rw [if_pos q] at k
  rw [if_pos q.1]
  have b1 : z_bl (A 1 0) (z_nmd A (z_nx T τ).2.2.2) := by rcases z_nmd_R (A := A) (v := (z_nx T τ).2.2.2) r1.1 with x | x; omega; exact x
  obtain ⟨b10, b11⟩ := b1
  obtain ⟨-, q2, hu⟩ := q
  generalize z_nmd A (z_nx T τ).2.2.2 = e at k b10 b11 q2 hu ⊢
  refine ⟨fun _ => ⟨⟨⟨by omega, by omega⟩, ⟨by omega, by omega⟩, True.intro⟩, True.intro⟩, ?_⟩
  rw [if_neg (show ¬ e ≤ 0 by omega), z_fmip hA hm1.1 b10 b11, if_pos hu, if_pos rfl]
  refine m_takes1 hM ht1 hB hk1 a1 (by decide) (fun w92 a92 f92 => ?_)
  have ht92 := ht1.f15 f92
  have hm92 : z_mr (w92 163) A := by rw [f92.1 163 (by omega)]; exact hm1
  have f092 := f1.R.trans f92.R
  rw [show w92 163 0 = A 0 0 from hm92.1.1]
  refine m_numberIn hM ht92 hB hk2 a92 (fun n1 n2 n3 w93 a93 f93 => ?_) (fun q w93 d93 f93 _ => ?_)
  · rw [if_pos ⟨n1, n3⟩] at k
    have hm93 : z_mr (w93 163) A := by rw [f93.1 163 (by omega)]; exact hm92
    have f093 := f092.trans f93.R
    refine ⟨fun d => absurd d (by rw [a93.1]; decide), fun _ => ⟨⟨by omega, by omega⟩, ⟨by omega, by omega⟩, ⟨by omega, by omega⟩, fun w109 e109 => ?_⟩⟩
    have f109 : ∀ c : Nat, c ≠ 163 → w109 c = w93 c := fun c hc => by rw [e109, z_Wf hc]
    have a109 : z_al w109 (z_nx T (z_nx T (z_nx T τ))) := by unfold z_al z_rtk; rw [f109 161 (by omega)]; exact a93
    have m109 : z_mr (w109 163) (z_up A 8 e (z_nx T (z_nx T τ)).2.2.2) := by rw [e109]; exact z_mr_pin hm93 hA b10 (by omega)
    refine m_tail (K := fun u => ∃ w' : z_Mm, (none : Option z_V) = none ∧ ((sh, u) : z_S) = (sh, w') ∧ K w') hM ((ht92.f15 f93).R (z_fR.c f109)) hB (z_okg_pin hA (by omega) (by omega)) m109 hk3 a109 (fun x1 x2 w' a m f => ⟨_, rfl, rfl, k w' ?_ ((f093.trans (z_fR.c f109)).trans f)⟩) (fun x w' d f => ⟨_, rfl, rfl, k w' ?_ ((f093.trans (z_fR.c f109)).trans f)⟩)
    · rw [if_pos ⟨x1, x2⟩]
      exact ⟨fun c => absurd c (show ¬ (1 : Int) = 0 by decide), fun _ => ⟨a, m⟩⟩
    · rw [if_neg x]
      exact zer _ _ _ d
  · have n1 : ¬ ((z_nx T (z_nx T τ)).2.2.1 = 2 ∧ (z_nx T (z_nx T τ)).2.2.2 ≤ A 0 0) := fun c => q ⟨c.1, (hk2.2.2.2 c.1).2.2.1, c.2⟩
    rw [if_neg n1] at k
    exact m_pntD (K := fun u => ∃ w' : z_Mm, (none : Option z_V) = none ∧ ((sh, u) : z_S) = (sh, w') ∧ K w') hM d93 ⟨_, rfl, rfl, k w93 (zer _ _ _ d93) (f092.trans f93)⟩
