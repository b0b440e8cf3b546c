/-! TIGHTEST -/
noncomputable def z_ti (A : z_A) (one oth kd : Int) : Int := if kd = 0 then max 0 (- z_dd A (-1) oth one) else if z_dd A (-1) one oth < 0 then -2 else z_dd A (-1) one oth
theorem z_cti1 {w : z_Mm} {A : z_A} {one oth kd : Int} (hA : z_okg A) (hb : z_bears A) (hn : z_nb w A) (h1 : z_bl (A 1 0) one) (h2 : z_bl (A 1 0) oth) : f_X8_tightestNumber w one oth kd = z_ti A one oth kd ∧ s_X8_tightestNumber w one oth kd := by
  obtain ⟨e1, s1⟩ := z_cbt hA hb hn h1 h2
  obtain ⟨e2, s2⟩ := z_cbt hA hb hn h2 h1
  have ra := z_dd_R (lo := -1) hA hb h1 h2
  have rb := z_dd_R (lo := -1) hA hb h2 h1
  refine ⟨?_, fun _ => ⟨s2, by rw [e2]; exact ⟨by omega, by omega⟩, True.intro⟩, fun _ => ⟨s1, True.intro⟩, True.intro⟩
  unfold f_X8_tightestNumber z_ti f_J9_max_7cf53 f_J9_min_7cf53
  rw [e1, e2]
  generalize z_dd A (-1) one oth = x at *
  generalize z_dd A (-1) oth one = y at *
  (repeat' split) <;> omega
