/-! CAN and DIRECT -/
noncomputable def z_qc (A : z_A) (e t : Int) : Int := if 0 ≤ e ∧ e < A 1 0 then (if - z_dd A (-1) e 0 ≤ t ∧ t ≤ z_dd A (-1) 0 e then 1 else 0) else -1
theorem c_can {sh : List z_C} {w : z_Mm} {A : z_A} {H : List z_A} {e t : Int} {K : Int → z_Mm → Prop} (hT : z_isTG sh 0) (hs : z_cs w A H) (k : K (z_qc A e t) w) : z_CI mX8_can [z_r 0, z_i e, z_i t] sh w K := by
  obtain ⟨hA, hp, hn, -, -⟩ := hs
  have p10 : w 1 10 = A 1 0 := hp.1.2.1
  have h1 := z_fev (w := w) (e := e)
  rw [p10] at h1
  have hsv := z_sv_A hA.1 hA.2.1 (-1)
  by_cases c : f_X8_isEvent w e = 0
  · have ef : f_X8_can w e t = z_qc A e t := by
      unfold f_X8_can z_qc
      rw [if_pos c, if_neg (h1.mp c)]
    exact z_CIi (t_X8_can hT ⟨fun q => absurd c q, True.intro⟩ ⟨_, _, rfl, rfl, by rw [ef]; exact k⟩)
  · have d : 0 ≤ e ∧ e < A 1 0 := Classical.byContradiction fun q => c (h1.mpr q)
    have ef : f_X8_can w e t = z_qc A e t := by
      unfold f_X8_can z_qc
      rw [if_neg c, if_pos d, z_fal hsv hn.1 d]
      unfold f_X8_asNumber
      show _ = if - z_Dd (z_Sx A (-1)) (A 1 0) e 0 ≤ t ∧ t ≤ z_Dd (z_Sx A (-1)) (A 1 0) 0 e then (1 : Int) else 0
      by_cases q : - z_Dd (z_Sx A (-1)) (A 1 0) e 0 ≤ t ∧ t ≤ z_Dd (z_Sx A (-1)) (A 1 0) 0 e
      · rw [if_pos q]; rfl
      · rw [if_neg q]; rfl
    exact z_CIi (t_X8_can hT ⟨fun _ => ⟨z_sal hsv hn.1 d, True.intro⟩, True.intro⟩ ⟨_, _, rfl, rfl, by rw [ef]; exact k⟩)
theorem m_can {sh : List z_C} {w : z_Mm} {A : z_A} {H : List z_A} {e t : Int} {K : Int → z_Mm → Prop} (hM : z_isMod sh 161) (hs : z_ms w A H) (hA : z_okg A) (hb : z_bears A)
    (k : ∀ w', z_ms w' A H → z_frM w w' → K (z_qc A e t) w') : z_CI mX9_can [z_r 161, z_i e, z_i t] sh w K := by
  have r1 := hA.2.1
  have p1 : w 163 1 = A 1 0 := hs.1.1.2.1
  have h1 := z_fem (w := w) (e := e)
  rw [p1] at h1
  unfold z_qc at k
  refine z_CIi (t_X9_can hM ⟨z_sem (by omega), fun c => ?_, fun c => ?_⟩)
  · rw [if_neg (h1.mp c)] at k
    exact ⟨_, _, rfl, rfl, k w hs z_frM.rf⟩
  · have d : 0 ≤ e ∧ e < A 1 0 := Classical.byContradiction fun q => c (h1.mpr q)
    rw [if_pos d] at k
    refine m_laysB hM hA hb hs.1.1 (fun w3 l3 g3 f3 => ?_)
    obtain ⟨m1, m2, m3, m4⟩ := z_mea l3 hA hb d
    have k3 := k w3 (hs.L f3) f3.M
    refine ⟨m3, m4, _, _, rfl, rfl, ?_⟩
    rw [m1, m2]
    have hq := z_fin (w := w3) (x := t) (a := - z_dd A (-1) e 0) (b := z_dd A (-1) 0 e)
    by_cases q : - z_dd A (-1) e 0 ≤ t ∧ t ≤ z_dd A (-1) 0 e
    · rw [if_pos q] at k3
      rw [if_neg (fun c => (hq.mp c) q)]
      exact k3
    · rw [if_neg q] at k3
      rw [if_pos (hq.mpr q)]
      exact k3
/-- v is the first tight gap whose step leads from a to b, or -2 -/
def z_fdr (A : z_A) (a b v : Int) : Prop := (v = -2 ∧ ∀ h : Int, 0 ≤ h → h < A 2 0 → ¬ (z_tg A h ∧ (z_gs A h).1 = a ∧ (z_gs A h).2.1 = b)) ∨ (0 ≤ v ∧ v < A 2 0 ∧ (z_tg A v ∧ (z_gs A v).1 = a ∧ (z_gs A v).2.1 = b) ∧ ∀ h : Int, 0 ≤ h → h < v → ¬ (z_tg A h ∧ (z_gs A h).1 = a ∧ (z_gs A h).2.1 = b))
theorem z_fdr_u {A : z_A} {a b v u : Int} (h : z_fdr A a b v) (h' : z_fdr A a b u) : v = u := by
  rcases h with ⟨p, q⟩ | ⟨p, q, r, s⟩
  · rcases h' with ⟨p', q'⟩ | ⟨p', q', r', s'⟩
    · rw [p, p']
    · exact absurd r' (q u p' q')
  · rcases h' with ⟨p', q'⟩ | ⟨p', q', r', s'⟩
    · exact absurd r (q' v p q)
    · rcases Int.lt_trichotomy v u with c | c | c
      · exact absurd r (s' v p c)
      · exact c
      · exact absurd r' (s u p' c)
noncomputable def z_dr (A : z_A) (a b : Int) : Int := Classical.epsilon (fun v => z_fdr A a b v)
theorem z_dr_of {A : z_A} {a b v : Int} (h : z_fdr A a b v) : z_dr A a b = v := z_fdr_u (Classical.epsilon_spec (p := fun v => z_fdr A a b v) ⟨v, h⟩) h
noncomputable def z_qd (A : z_A) (a b : Int) : Int := if (0 ≤ a ∧ a < A 1 0) ∧ (0 ≤ b ∧ b < A 1 0) ∧ a ≠ b then z_dr A a b else -1
theorem c_direct {sh : List z_C} {w : z_Mm} {A : z_A} {H : List z_A} {a b : Int} {K : Int → z_Mm → Prop} (hT : z_isTG sh 0) (hs : z_cs w A H) (k : K (z_qd A a b) w) : z_CI mX8_direct [z_r 0, z_i a, z_i b] sh w K := by
  obtain ⟨hA, hp, hn, -, -⟩ := hs
  have r2 := hA.1.2.2.1
  have p10 : w 1 10 = A 1 0 := hp.1.2.1
  have p11 : w 1 11 = A 2 0 := hp.1.2.2.1
  have h1 := z_f2e (w := w) (a := a) (b := b)
  rw [p10] at h1
  have hnb := hn.nb hA.1 hA.2.1
  unfold z_qd at k
  refine z_CIi (t_X8_direct hT ⟨fun c => ?_, fun c => ?_⟩)
  · rw [if_neg (h1.mp c)] at k
    exact ⟨_, _, rfl, rfl, k⟩
  · have d : (0 ≤ a ∧ a < A 1 0) ∧ (0 ≤ b ∧ b < A 1 0) ∧ a ≠ b := Classical.byContradiction fun q => c (h1.mpr q)
    rw [if_pos d] at k
    refine z_for (n := A 2 0) (i0 := 0) (fun i v => z_Sem mX8_direct (sh.length, 0) 13 [(0, z_r 0), (1, z_i a), (2, z_i b), (3, z_i i)] [] (sh, v) _)
      (fun i v => v = w ∧ ∀ h : Int, 0 ≤ h → h < i → ¬ (z_tg A h ∧ (z_gs A h).1 = a ∧ (z_gs A h).2.1 = b)) (by omega) ⟨rfl, fun h h0 h1 => absurd h1 (by omega)⟩ ?_ ?_
    · rintro v ⟨rfl, vn⟩
      rw [z_dr_of (Or.inl ⟨rfl, vn⟩)] at k
      exact t_X8_direct_13 hT ⟨fun _ => ⟨_, _, rfl, rfl, k⟩, fun c => absurd c (by omega)⟩
    · rintro i v i0 i1 ⟨rfl, vn⟩ kk
      obtain ⟨u1, u2, -⟩ := z_cbe hp.1 i0 i1
      obtain ⟨s1, s2, -⟩ := z_scbe hA.1 hp.1 i0 i1
      have et := z_cti hA.1 hA.2.1 hp.1 hnb i0 i1
      have go : ¬ (z_tg A i ∧ (z_gs A i).1 = a ∧ (z_gs A i).2.1 = b) → z_Sem mX8_direct (sh.length, 0) 13 [(0, z_r 0), (1, z_i a), (2, z_i b), (3, z_i (i + 1))] [] (sh, v) (fun r σ => ∃ (x : Int) (w' : z_Mm), r = some (z_i x) ∧ σ = (sh, w') ∧ K x w') := fun nq => kk v ⟨rfl, fun h h0 h1 => by
        by_cases q : h = i
        · rw [q]; exact nq
        · exact vn h h0 (by omega)⟩
      refine t_X8_direct_13 hT ⟨fun c => absurd c (by omega), fun _ => ⟨z_scti hA.1 hA.2.1 hp.1 hnb i0 i1, fun c1 => ⟨⟨by omega, by omega⟩, go (fun q => (et.mp c1) q.1)⟩, fun c1 => ⟨s1, fun c2 => ⟨s2, fun c3 => ?_, fun c3 => ⟨⟨by omega, by omega⟩, go (fun q => c3 (by rw [u2]; exact q.2.2))⟩⟩, fun c2 => ⟨⟨by omega, by omega⟩, go (fun q => c2 (by rw [u1]; exact q.2.1))⟩⟩⟩⟩
      rw [u1] at c2
      rw [u2] at c3
      rw [z_dr_of (Or.inr ⟨i0, i1, ⟨Classical.byContradiction fun q => c1 (et.mpr q), c2, c3⟩, vn⟩)] at k
      exact ⟨_, _, rfl, rfl, k⟩
theorem m_direct {sh : List z_C} {w : z_Mm} {A : z_A} {H : List z_A} {a b : Int} {K : Int → z_Mm → Prop} (hM : z_isMod sh 161) (hs : z_ms w A H) (hA : z_okg A) (hb : z_bears A)
    (k : ∀ w', z_ms w' A H → z_frM w w' → K (z_qd A a b) w') : z_CI mX9_direct [z_r 161, z_i a, z_i b] sh w K := by
  have r1 := hA.2.1
  have r2 := hA.2.2.1
  have p1 : w 163 1 = A 1 0 := hs.1.1.2.1
  have h1 := z_fmT (w := w) (a := a) (b := b)
  rw [p1] at h1
  unfold z_qd at k
  refine z_CIi (t_X9_direct hM ⟨⟨z_sem (by omega), fun _ => ⟨z_sem (by omega), True.intro⟩, True.intro⟩, fun c => ?_, fun c => ?_⟩)
  · rw [if_neg (h1.mp c)] at k
    exact ⟨_, _, rfl, rfl, k w hs z_frM.rf⟩
  · have d : (0 ≤ a ∧ a < A 1 0) ∧ (0 ≤ b ∧ b < A 1 0) ∧ a ≠ b := Classical.byContradiction fun q => c (h1.mpr q)
    rw [if_pos d] at k
    refine m_laysB hM hA hb hs.1.1 (fun w3 l3 g3 f3 => ?_)
    have k3 := k w3 (hs.L f3) f3.M
    have p2 : w3 163 2 = A 2 0 := g3.2.2.1
    refine z_for (n := A 2 0) (i0 := 0) (fun i v => z_Sem mX9_direct (sh.length, 0) 19 [(0, z_r 161), (1, z_i a), (2, z_i b), (4, z_i i)] [] (sh, v) _)
      (fun i v => v = w3 ∧ ∀ h : Int, 0 ≤ h → h < i → ¬ (z_tg A h ∧ (z_gs A h).1 = a ∧ (z_gs A h).2.1 = b)) (by omega) ⟨rfl, fun h h0 h1 => absurd h1 (by omega)⟩ ?_ ?_
    · rintro v ⟨rfl, vn⟩
      rw [z_dr_of (Or.inl ⟨rfl, vn⟩)] at k3
      exact t_X9_direct_19 hM ⟨fun _ => ⟨_, _, rfl, rfl, k3⟩, fun c => absurd c (by omega)⟩
    · rintro i v i0 i1 ⟨rfl, vn⟩ kk
      have u1 := z_ffr g3 i0 i1
      have u2 := z_fto g3 i0 i1
      have et := z_fmt hA hb g3 l3 i0 i1
      have go : ¬ (z_tg A i ∧ (z_gs A i).1 = a ∧ (z_gs A i).2.1 = b) → z_Sem mX9_direct (sh.length, 0) 19 [(0, z_r 161), (1, z_i a), (2, z_i b), (4, z_i (i + 1))] [] (sh, v) (fun r σ => ∃ (x : Int) (w' : z_Mm), r = some (z_i x) ∧ σ = (sh, w') ∧ K x w') := fun nq => kk v ⟨rfl, fun h h0 h1 => by
        by_cases q : h = i
        · rw [q]; exact nq
        · exact vn h h0 (by omega)⟩
      refine t_X9_direct_19 hM ⟨fun c => absurd c (by omega), fun _ => ⟨z_smt hA g3 i0 i1, fun c1 => ⟨⟨by omega, by omega⟩, go (fun q => (et.mp c1) q.1)⟩, fun c1 => ⟨z_sfr hA i0 i1, fun c2 => ⟨z_sto hA i0 i1, fun c3 => ?_, fun c3 => ⟨⟨by omega, by omega⟩, go (fun q => c3 (by rw [u2]; exact q.2.2))⟩⟩, fun c2 => ⟨⟨by omega, by omega⟩, go (fun q => c2 (by rw [u1]; exact q.2.1))⟩⟩⟩⟩
      rw [u1] at c2
      rw [u2] at c3
      rw [z_dr_of (Or.inr ⟨i0, i1, ⟨Classical.byContradiction fun q => c1 (et.mpr q), c2, c3⟩, vn⟩)] at k3
      exact ⟨_, _, rfl, rfl, k3⟩
