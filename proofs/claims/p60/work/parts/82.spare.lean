/-! SPARE: the methods -/
theorem c_spare {sh : List z_C} {w : z_Mm} {A : z_A} {H : List z_A} {g : Int} {K : Int → z_Mm → Prop} (hT : z_isTG sh 0) (hs : z_cs w A H) (k : K (z_qsp A g) w) : z_CI mX8_spare [z_r 0, z_i g] sh w K := by
  obtain ⟨hA, hp, hn, -, -⟩ := hs
  have r2 := hA.1.2.2.1
  have p11 : w 1 11 = A 2 0 := hp.1.2.2.1
  have h1 := z_fgp (w := w) (g := g)
  rw [p11] at h1
  have hnb := hn.nb hA.1 hA.2.1
  by_cases c : f_X8_isGap w g = 0
  · have ef : f_X8_spare w g = z_qsp A g := by
      unfold f_X8_spare z_qsp
      rw [if_pos c, if_neg (h1.mp c)]
    exact z_CIi (t_X8_spare hT ⟨fun q => absurd c q, True.intro⟩ ⟨_, _, rfl, rfl, by rw [ef]; exact k⟩)
  · have d : 0 ≤ g ∧ g < A 2 0 := Classical.byContradiction fun q => c (h1.mpr q)
    obtain ⟨v4, v5, v6, v7, v8⟩ := hp.1.2.2.2.1 g d.1 d.2
    have e5 : w 5 g = A 3 g := v4
    have e6 : w 6 g = A 4 g := v5
    have e7 : w 7 g = A 5 g := v6
    have e8 : w 8 g = A 6 g := v7
    have e9 : w 9 g = A 7 g := v8
    obtain ⟨r3, r4, -, r5, r6, -⟩ := hA.1.2.2.2.1 g d.1 d.2
    obtain ⟨t1, t2⟩ := z_cti1 (kd := A 5 g) hA.1 hA.2.1 hnb r3 r4
    have ef : f_X8_spare w g = z_qsp A g := by
      unfold f_X8_spare z_qsp
      rw [if_neg c, if_pos d, e5, e6, e7, e8, e9, t1]
      by_cases c7 : A 7 g = 0
      · rw [if_pos c7, if_pos c7]
      · rw [if_neg c7, if_neg c7]
        obtain ⟨q1, q2, q3⟩ := z_ti_le hA.1 hA.2.1 d.1 d.2 c7
        unfold f_J9_abs_0f7a4
        by_cases c5 : A 5 g = 0
        · have := q2 c5
          rw [if_pos c5, if_pos (by omega)]
        · have := q3 c5
          rw [if_neg c5]
          split <;> omega
    refine z_CIi (t_X8_spare hT ⟨fun _ => ⟨⟨d.1, by omega⟩, fun c7 => ⟨⟨d.1, by omega⟩, ⟨d.1, by omega⟩, ⟨d.1, by omega⟩, by rw [e5, e6, e7]; exact t2, ⟨d.1, by omega⟩, ?_, ⟨fun _ => ⟨?_, True.intro⟩, True.intro⟩, True.intro⟩, True.intro⟩, True.intro⟩ ⟨_, _, rfl, rfl, by rw [ef]; exact k⟩)
    · rw [e9] at c7
      obtain ⟨q1, -, -⟩ := z_ti_le hA.1 hA.2.1 d.1 d.2 c7
      rw [e5, e6, e7, e8, t1]
      exact ⟨by omega, by omega⟩
    · rw [e9] at c7
      obtain ⟨q1, -, -⟩ := z_ti_le hA.1 hA.2.1 d.1 d.2 c7
      rw [e5, e6, e7, e8, t1]
      exact ⟨by omega, by omega⟩
