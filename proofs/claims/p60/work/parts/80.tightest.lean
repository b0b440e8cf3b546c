/-! TIGHTEST: the methods -/
noncomputable def z_qt (A : z_A) (one oth kd : Int) : Int := if ((0 ≤ one ∧ one < A 1 0) ∧ (0 ≤ oth ∧ oth < A 1 0) ∧ one ≠ oth) ∧ (0 ≤ kd ∧ kd ≤ 1) then z_ti A one oth kd else -1
theorem c_tightest {sh : List z_C} {w : z_Mm} {A : z_A} {H : List z_A} {one oth kd : Int} {K : Int → z_Mm → Prop} (hT : z_isTG sh 0) (hs : z_cs w A H) (k : K (z_qt A one oth kd) w) : z_CI mX8_tightest [z_r 0, z_i one, z_i oth, z_i kd] sh w K := by
  obtain ⟨hA, hp, hn, -, -⟩ := hs
  have p10 : w 1 10 = A 1 0 := hp.1.2.1
  have h1 := z_f2e (w := w) (a := one) (b := oth)
  rw [p10] at h1
  have h2 := z_fkd (w := w) (a := kd)
  have hnb := hn.nb hA.1 hA.2.1
  have ef : f_X8_tightest w one oth kd = z_qt A one oth kd := by
    unfold f_X8_tightest z_qt
    by_cases c1 : f_X8_areTwoEvents w one oth = 0
    · rw [if_pos c1, if_neg (fun q => (h1.mp c1) q.1)]
    · have d1 := Classical.byContradiction fun q => c1 (h1.mpr q)
      by_cases c2 : f_X8_isKind w kd = 0
      · rw [if_neg c1, if_pos c2, if_neg (fun q => (h2.mp c2) q.2)]
      · have d2 := Classical.byContradiction fun q => c2 (h2.mpr q)
        rw [if_neg c1, if_neg c2, if_pos ⟨d1, d2⟩, (z_cti1 hA.1 hA.2.1 hnb d1.1 d1.2.1).1]
  refine z_CIi (t_X8_tightest hT ⟨fun c1 => ⟨fun _ => ⟨?_, True.intro⟩, True.intro⟩, True.intro⟩ ⟨_, _, rfl, rfl, by rw [ef]; exact k⟩)
  have d1 := Classical.byContradiction fun q => c1 (h1.mpr q)
  exact (z_cti1 hA.1 hA.2.1 hnb d1.1 d1.2.1).2
