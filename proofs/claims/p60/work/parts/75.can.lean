/-! CAN and DIRECT -/
noncomputable def z_qc (A : z_A) (e t : Int) : Int := if 0 ≤ e ∧ e < A 1 0 then (if - z_dd A (-1) e 0 ≤ t ∧ t ≤ z_dd A (-1) 0 e then 1 else 0) else -1
theorem c_can {sh : List z_C} {w : z_Mm} {A : z_A} {H : List z_A} {e t : Int} {K : Int → z_Mm → Prop} (hT : z_isTG sh 0) (hs : z_cs w A H) (k : K (z_qc A e t) w) : z_CI mX8_can [z_r 0, z_i e, z_i t] sh w K := by
  obtain ⟨hA, hp, hn, -, -⟩ := hs
  have p10 : w 1 10 = A 1 0 := hp.1.2.1
  have h1 := z_fev (w := w) (e := e)
  rw [p10] at h1
  have hsv := z_sv_A hA.1 hA.2.1 (-1)
  by_cases c : f_X8_isEvent w e = 0
  · have ef : f_X8_can w e t = z_qc A e t := by
      unfold f_X8_can z_qc
      rw [if_pos c, if_neg (h1.mp c)]
    exact z_CIi (t_X8_can hT ⟨fun q => absurd c q, True.intro⟩ ⟨_, _, rfl, rfl, by rw [ef]; exact k⟩)
  · have d : 0 ≤ e ∧ e < A 1 0 := Classical.byContradiction fun q => c (h1.mpr q)
    have ef : f_X8_can w e t = z_qc A e t := by
      unfold f_X8_can z_qc
      rw [if_neg c, if_pos d, z_fal hsv hn.1 d]
      unfold f_X8_asNumber
      show _ = if - z_Dd (z_Sx A (-1)) (A 1 0) e 0 ≤ t ∧ t ≤ z_Dd (z_Sx A (-1)) (A 1 0) 0 e then (1 : Int) else 0
      by_cases q : - z_Dd (z_Sx A (-1)) (A 1 0) e 0 ≤ t ∧ t ≤ z_Dd (z_Sx A (-1)) (A 1 0) 0 e
      · rw [if_pos q]; rfl
      · rw [if_neg q]; rfl
    exact z_CIi (t_X8_can hT ⟨fun _ => ⟨z_sal hsv hn.1 d, True.intro⟩, True.intro⟩ ⟨_, _, rfl, rfl, by rw [ef]; exact k⟩)
/-- v is the first tight gap whose step leads from a to b, or -2 -/
def z_fdr (A : z_A) (a b v : Int) : Prop := (v = -2 ∧ ∀ h : Int, 0 ≤ h → h < A 2 0 → ¬ (z_tg A h ∧ (z_gs A h).1 = a ∧ (z_gs A h).2.1 = b)) ∨ (0 ≤ v ∧ v < A 2 0 ∧ (z_tg A v ∧ (z_gs A v).1 = a ∧ (z_gs A v).2.1 = b) ∧ ∀ h : Int, 0 ≤ h → h < v → ¬ (z_tg A h ∧ (z_gs A h).1 = a ∧ (z_gs A h).2.1 = b))
theorem z_fdr_u {A : z_A} {a b v u : Int} (h : z_fdr A a b v) (h' : z_fdr A a b u) : v = u := by
  rcases h with ⟨p, q⟩ | ⟨p, q, r, s⟩
  · rcases h' with ⟨p', q'⟩ | ⟨p', q', r', s'⟩
    · rw [p, p']
    · exact absurd r' (q u p' q')
  · rcases h' with ⟨p', q'⟩ | ⟨p', q', r', s'⟩
    · exact absurd r (q' v p q)
    · rcases Int.lt_trichotomy v u with c | c | c
      · exact absurd r (s' v p c)
      · exact c
      · exact absurd r' (s u p' c)
noncomputable def z_dr (A : z_A) (a b : Int) : Int := Classical.epsilon (fun v => z_fdr A a b v)
theorem z_dr_of {A : z_A} {a b v : Int} (h : z_fdr A a b v) : z_dr A a b = v := z_fdr_u (Classical.epsilon_spec (p := fun v => z_fdr A a b v) ⟨v, h⟩) h
noncomputable def z_qd (A : z_A) (a b : Int) : Int := if (0 ≤ a ∧ a < A 1 0) ∧ (0 ≤ b ∧ b < A 1 0) ∧ a ≠ b then z_dr A a b else -1
