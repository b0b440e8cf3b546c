/-! MORE COUNTS, EVENT, GAP, VALUE -/
theorem c_countOnOf {sh : List z_C} {w : z_Mm} {A : z_A} {e : Int} {K : Int → z_Mm → Prop} (hT : z_isTG sh 0) (hA : z_okg A) (hp : z_pg w 1 A) (k : K (z_ct (z_ofp A e) (A 2 0).toNat) w) : z_CI mX3_countOnOf [z_r 1, z_i e] sh w K := by
  have r2 := hA.2.2.1
  have p11 : w 1 11 = A 2 0 := hp.2.2.1
  refine z_CIi (t_X3_countOnOf hT.2.1 ?_)
  refine z_for (n := A 2 0) (i0 := 0) (fun i v => z_Sem mX3_countOnOf (sh.length, 0) 4 [(0, z_r 1), (1, z_i e), (2, z_i (z_ct (z_ofp A e) i.toNat)), (3, z_i i)] [] (sh, v) _) (fun i v => v = w) (by omega) rfl ?_ ?_
  · rintro v rfl
    exact t_X3_countOnOf_4 hT.2.1 ⟨fun _ => ⟨_, _, rfl, rfl, k⟩, fun c => absurd c (by omega)⟩
  · rintro i v i0 i1 rfl kk
    obtain ⟨v4, v5, v6, v7, v8⟩ := hp.2.2.2.1 i i0 i1
    have rc := z_ct_R (p := z_ofp A e) i.toNat
    have kk' := kk v rfl
    refine t_X3_countOnOf_4 hT.2.1 ⟨fun c => absurd c (by omega), fun _ => ?_⟩
    unfold f_X3_hasEvent s_X3_hasEvent
    rw [v8, v4, v5]
    have ed : (f_X8_asNumber v (if A 7 i = 0 then 0 else if (if A 3 i = e then 1 else if A 4 i = e then 1 else (0 : Int)) = 0 then 0 else 1) = 1 ∧ z_ofp A e i) ∨ (f_X8_asNumber v (if A 7 i = 0 then 0 else if (if A 3 i = e then 1 else if A 4 i = e then 1 else (0 : Int)) = 0 then 0 else 1) = 0 ∧ ¬ z_ofp A e i) := by
      unfold f_X8_asNumber z_ofp
      by_cases c1 : A 7 i = 0
      · simp [c1]
      · by_cases c2 : A 3 i = e
        · simp [c1, c2]
        · by_cases c3 : A 4 i = e
          · simp [c1, c2, c3]
          · simp [c1, c2, c3]
    refine ⟨⟨i0, by omega⟩, fun _ => ⟨⟨⟨i0, by omega⟩, fun _ => ⟨⟨i0, by omega⟩, True.intro⟩, True.intro⟩, True.intro⟩, ⟨by omega, by omega⟩, fun y4 e4 => ⟨⟨by omega, by omega⟩, ?_⟩⟩
    rw [z_ct_y (p := z_ofp A e) i0 ed e4]
    exact kk'
def z_stp (A : z_A) (e : Int) : Prop := z_dd A (-1) 0 e + z_dd A (-1) e 0 = 0
theorem c_countSettled {sh : List z_C} {w : z_Mm} {A : z_A} {K : Int → z_Mm → Prop} (hT : z_isTG sh 0) (hA : z_okg A) (hb : z_bears A) (hn : z_nb w A) (k : K (z_ct (z_stp A) (A 1 0).toNat) w) : z_CI mX2_countSettled [z_r 12] sh w K := by
  obtain ⟨S, hv, hS, hd⟩ := hn
  have r1 := hA.2.1
  have e6 : w 12 6 = A 1 0 := hd.1
  have b0 : z_bl (A 1 0) 0 := ⟨by omega, by omega⟩
  refine z_CIi (t_X2_countSettled hT.2.2.1 ?_)
  refine z_for (n := A 1 0) (i0 := 0) (fun i v => z_Sem mX2_countSettled (sh.length, 0) 4 [(0, z_r 12), (1, z_i (z_ct (z_stp A) i.toNat)), (2, z_i i)] [] (sh, v) _) (fun i v => v = w) (by omega) rfl ?_ ?_
  · rintro v rfl
    exact t_X2_countSettled_4 hT.2.2.1 ⟨fun _ => ⟨_, _, rfl, rfl, k⟩, fun c => absurd c (by omega)⟩
  · rintro i v i0 i1 rfl kk
    have bi : z_bl (A 1 0) i := ⟨i0, i1⟩
    have rc := z_ct_R (p := z_stp A) i.toNat
    have kk' := kk v rfl
    refine t_X2_countSettled_4 hT.2.2.1 ⟨fun c => absurd c (by omega), fun _ => ?_⟩
    rw [z_fpt hv hd bi, z_dd_S hA hb hv hS b0 bi, z_dd_S hA hb hv hS bi b0]
    have ed : (f_X8_asNumber v (if z_dd A (-1) 0 i + z_dd A (-1) i 0 + 1 = 1 then 1 else 0) = 1 ∧ z_stp A i) ∨ (f_X8_asNumber v (if z_dd A (-1) 0 i + z_dd A (-1) i 0 + 1 = 1 then 1 else 0) = 0 ∧ ¬ z_stp A i) := by
      unfold f_X8_asNumber z_stp
      by_cases c : z_dd A (-1) 0 i + z_dd A (-1) i 0 = 0
      · exact Or.inl ⟨by rw [if_pos (show z_dd A (-1) 0 i + z_dd A (-1) i 0 + 1 = 1 by omega)]; rfl, c⟩
      · exact Or.inr ⟨by rw [if_neg (show ¬ z_dd A (-1) 0 i + z_dd A (-1) i 0 + 1 = 1 by omega)]; rfl, c⟩
    refine ⟨z_spt hv hd bi, ⟨by omega, by omega⟩, fun y4 e4 => ⟨⟨by omega, by omega⟩, ?_⟩⟩
    rw [z_ct_y (p := z_stp A) i0 ed e4]
    exact kk'
/-- EVENT -/
noncomputable def z_qe (A : z_A) (e p : Int) : Int :=
  if 0 ≤ e ∧ e < A 1 0 then (if p = 0 then - z_dd A (-1) e 0 else if p = 1 then z_dd A (-1) 0 e else if p = 2 then z_dd A (-1) 0 e + z_dd A (-1) e 0 + 1 else if p = 3 then (if A 8 e = -1 then -2 else A 8 e) else if p = 4 then z_ct (z_ofp A e) (A 2 0).toNat else -1) else -1
theorem c_event {sh : List z_C} {w : z_Mm} {A : z_A} {H : List z_A} {e p : Int} {K : Int → z_Mm → Prop} (hT : z_isTG sh 0) (hs : z_cs w A H) (k : K (z_qe A e p) w) : z_CI mX8_event [z_r 0, z_i e, z_i p] sh w K := by
  obtain ⟨hA, hp, hn, -, -⟩ := hs
  have r1 := hA.1.2.1
  have p10 : w 1 10 = A 1 0 := hp.1.2.1
  have h1 := z_fev (w := w) (e := e)
  rw [p10] at h1
  unfold z_qe at k
  have b0 : z_bl (A 1 0) 0 := ⟨by omega, by omega⟩
  have hsv := z_sv_A hA.1 hA.2.1 (-1)
  refine z_CIi (t_X8_event hT ⟨fun c => ?_, fun c => ?_⟩)
  · rw [if_neg (h1.mp c)] at k
    exact ⟨_, _, rfl, rfl, k⟩
  · have d : 0 ≤ e ∧ e < A 1 0 := Classical.byContradiction fun q => c (h1.mpr q)
    rw [if_pos d] at k
    refine ⟨fun q => ⟨z_sea hsv hn.1 d, _, _, rfl, rfl, ?_⟩, fun q => ⟨z_sla hsv hn.1 d, _, _, rfl, rfl, ?_⟩, fun q => ⟨z_spt hsv hn.1 d, _, _, rfl, rfl, ?_⟩, fun q => ⟨⟨⟨by omega, by omega⟩, True.intro⟩, fun _ => ⟨⟨by omega, by omega⟩, True.intro⟩, _, _, rfl, rfl, ?_⟩, fun q => ?_, fun q => ⟨_, _, rfl, rfl, ?_⟩⟩
    · rw [z_fea hsv hn.1 d]
      rw [if_pos q] at k
      exact k
    · rw [z_fla hsv hn.1 d]
      rw [if_neg (by omega), if_pos q] at k
      exact k
    · rw [z_fpt hsv hn.1 d]
      rw [if_neg (by omega), if_neg (by omega), if_pos q] at k
      exact k
    · rw [if_neg (by omega), if_neg (by omega), if_neg (by omega), if_pos q] at k
      rw [z_fipn hp.1 d.1 d.2, show w 4 e = A 8 e from hp.1.2.2.2.2 e d.1 d.2]
      by_cases c8 : A 8 e = -1
      · rw [if_pos c8] at k
        rw [if_pos c8, if_pos rfl]
        exact k
      · rw [if_neg c8] at k
        rw [if_neg c8, if_neg (by decide)]
        exact k
    · rw [if_neg (by omega), if_neg (by omega), if_neg (by omega), if_neg (by omega), if_pos q] at k
      exact c_countOnOf hT hA.1 hp.1 ⟨_, _, rfl, rfl, k⟩
    · rw [if_neg (by omega), if_neg (by omega), if_neg (by omega), if_neg (by omega), if_neg (by omega)] at k
      exact k
