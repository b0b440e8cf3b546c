/-! QUERIES: helpers, BOUND, PLAY, RELATION, LOG, counts -/
theorem z_cbt {w : z_Mm} {A : z_A} {a b : Int} (hA : z_okg A) (hb : z_bears A) (hn : z_nb w A) (ha : z_bl (A 1 0) a) (hb' : z_bl (A 1 0) b) : f_X2_between w 12 a b = z_dd A (-1) a b ∧ s_X2_between w 12 a b := by
  obtain ⟨S, hv, hS, hd⟩ := hn
  exact ⟨by rw [z_fbt hv hd ha hb', z_dd_S hA hb hv hS ha hb'], z_sbt hv hd ha hb'⟩
theorem z_ms.L {w w' : z_Mm} {A : z_A} {H : List z_A} (h : z_ms w A H) (f : z_frL w w') : z_ms w' A H := ⟨z_mr.I h.1 (f.1 163 (by omega) (by omega)), h.2.fr (f.2 8 (by decide)) (f.1 165 (by omega) (by omega))⟩
theorem z_ms.I {w w' : z_Mm} {A : z_A} {H : List z_A} (h : z_ms w A H) (hm : z_mr (w' 163) A) (f : z_frI w w') : z_ms w' A H := ⟨hm, h.2.fr (f.2 8 (by decide)) (f.1 165 (by omega) (by omega) (by omega))⟩
/-- BOUND -/
noncomputable def z_qb (A : z_A) (a b : Int) : Int := if (0 ≤ a ∧ a < A 1 0) ∧ (0 ≤ b ∧ b < A 1 0) then z_dd A (-1) a b else -100000
theorem c_bound {sh : List z_C} {w : z_Mm} {A : z_A} {H : List z_A} {a b : Int} {K : Int → z_Mm → Prop} (hT : z_isTG sh 0) (hs : z_cs w A H) (k : K (z_qb A a b) w) : z_CI mX8_bound [z_r 0, z_i a, z_i b] sh w K := by
  obtain ⟨hA, hp, hn, -, -⟩ := hs
  have p10 : w 1 10 = A 1 0 := hp.1.2.1
  have h1 := z_fev (w := w) (e := a)
  have h2 := z_fev (w := w) (e := b)
  rw [p10] at h1 h2
  have hnb := hn.nb hA.1 hA.2.1
  have ef : f_X8_bound w a b = z_qb A a b := by
    unfold f_X8_bound z_qb
    by_cases c1 : f_X8_isEvent w a = 0
    · have := h1.mp c1
      rw [if_pos c1, if_neg (by omega)]
    · have d1 : 0 ≤ a ∧ a < A 1 0 := Classical.byContradiction fun q => c1 (h1.mpr q)
      by_cases c2 : f_X8_isEvent w b = 0
      · have := h2.mp c2
        rw [if_neg c1, if_pos c2, if_neg (by omega)]
      · have d2 : 0 ≤ b ∧ b < A 1 0 := Classical.byContradiction fun q => c2 (h2.mpr q)
        rw [if_neg c1, if_neg c2, if_pos ⟨d1, d2⟩, (z_cbt hA.1 hA.2.1 hnb d1 d2).1]
  refine z_CIi (t_X8_bound hT ⟨fun c1 => ⟨fun c2 => ⟨?_, True.intro⟩, True.intro⟩, True.intro⟩ ⟨_, _, rfl, rfl, by rw [ef]; exact k⟩)
  have d1 : 0 ≤ a ∧ a < A 1 0 := Classical.byContradiction fun q => c1 (h1.mpr q)
  have d2 : 0 ≤ b ∧ b < A 1 0 := Classical.byContradiction fun q => c2 (h2.mpr q)
  exact (z_cbt hA.1 hA.2.1 hnb d1 d2).2
/-- PLAY -/
noncomputable def z_qp (A : z_A) (a b : Int) : Int := if (0 ≤ a ∧ a < A 1 0) ∧ (0 ≤ b ∧ b < A 1 0) ∧ a ≠ b then z_dd A (-1) a b + z_dd A (-1) b a else -1
theorem c_play {sh : List z_C} {w : z_Mm} {A : z_A} {H : List z_A} {a b : Int} {K : Int → z_Mm → Prop} (hT : z_isTG sh 0) (hs : z_cs w A H) (k : K (z_qp A a b) w) : z_CI mX8_play [z_r 0, z_i a, z_i b] sh w K := by
  obtain ⟨hA, hp, hn, -, -⟩ := hs
  have p10 : w 1 10 = A 1 0 := hp.1.2.1
  have h1 := z_f2e (w := w) (a := a) (b := b)
  rw [p10] at h1
  have hnb := hn.nb hA.1 hA.2.1
  by_cases c : f_X8_areTwoEvents w a b = 0
  · have ef : f_X8_play w a b = z_qp A a b := by
      unfold f_X8_play z_qp
      rw [if_pos c, if_neg (h1.mp c)]
    exact z_CIi (t_X8_play hT ⟨fun q => absurd c q, True.intro⟩ ⟨_, _, rfl, rfl, by rw [ef]; exact k⟩)
  · have d : (0 ≤ a ∧ a < A 1 0) ∧ (0 ≤ b ∧ b < A 1 0) ∧ a ≠ b := Classical.byContradiction fun q => c (h1.mpr q)
    obtain ⟨e1, s1⟩ := z_cbt hA.1 hA.2.1 hnb d.1 d.2.1
    obtain ⟨e2, s2⟩ := z_cbt hA.1 hA.2.1 hnb d.2.1 d.1
    have ra := z_dd_R (lo := -1) hA.1 hA.2.1 d.1 d.2.1
    have rb := z_dd_R (lo := -1) hA.1 hA.2.1 d.2.1 d.1
    have ef : f_X8_play w a b = z_qp A a b := by
      unfold f_X8_play z_qp
      rw [if_neg c, if_pos d, e1, e2]
    exact z_CIi (t_X8_play hT ⟨fun _ => ⟨s1, s2, by rw [e1, e2]; exact ⟨by omega, by omega⟩, True.intro⟩, True.intro⟩ ⟨_, _, rfl, rfl, by rw [ef]; exact k⟩)
/-- RELATION -/
noncomputable def z_rel (A : z_A) (a b : Int) : Int :=
  if z_dd A (-1) a b = 0 ∧ z_dd A (-1) b a = 0 then 0 else if 0 ≤ z_dd A (-1) b a then (if 0 ≤ z_dd A (-1) a b then (if z_dd A (-1) b a = 0 then 3 else if z_dd A (-1) a b = 0 then 4 else 5) else 2) else 1
theorem z_crel {w : z_Mm} {A : z_A} {a b : Int} (hA : z_okg A) (hb : z_bears A) (hn : z_nb w A) (ha : z_bl (A 1 0) a) (hb' : z_bl (A 1 0) b) : f_X8_relationOf w a b = z_rel A a b ∧ s_X8_relationOf w a b := by
  obtain ⟨e1, s1⟩ := z_cbt hA hb hn ha hb'
  obtain ⟨e2, s2⟩ := z_cbt hA hb hn hb' ha
  have rb := z_dd_R (lo := -1) hA hb hb' ha
  refine ⟨?_, s1, s2, by rw [e2]; exact ⟨by omega, by omega⟩, True.intro⟩
  unfold f_X8_relationOf z_rel
  rw [e1, e2]
  generalize z_dd A (-1) a b = x
  generalize z_dd A (-1) b a = y
  (repeat' split) <;> omega
noncomputable def z_qr (A : z_A) (a b : Int) : Int := if (0 ≤ a ∧ a < A 1 0) ∧ (0 ≤ b ∧ b < A 1 0) ∧ a ≠ b then z_rel A a b else -1
theorem c_relation {sh : List z_C} {w : z_Mm} {A : z_A} {H : List z_A} {a b : Int} {K : Int → z_Mm → Prop} (hT : z_isTG sh 0) (hs : z_cs w A H) (k : K (z_qr A a b) w) : z_CI mX8_relation [z_r 0, z_i a, z_i b] sh w K := by
  obtain ⟨hA, hp, hn, -, -⟩ := hs
  have p10 : w 1 10 = A 1 0 := hp.1.2.1
  have h1 := z_f2e (w := w) (a := a) (b := b)
  rw [p10] at h1
  have hnb := hn.nb hA.1 hA.2.1
  by_cases c : f_X8_areTwoEvents w a b = 0
  · have ef : f_X8_relation w a b = z_qr A a b := by
      unfold f_X8_relation z_qr
      rw [if_pos c, if_neg (h1.mp c)]
    exact z_CIi (t_X8_relation hT ⟨fun q => absurd c q, True.intro⟩ ⟨_, _, rfl, rfl, by rw [ef]; exact k⟩)
  · have d : (0 ≤ a ∧ a < A 1 0) ∧ (0 ≤ b ∧ b < A 1 0) ∧ a ≠ b := Classical.byContradiction fun q => c (h1.mpr q)
    obtain ⟨e1, s1⟩ := z_crel hA.1 hA.2.1 hnb d.1 d.2.1
    have ef : f_X8_relation w a b = z_qr A a b := by
      unfold f_X8_relation z_qr
      rw [if_neg c, if_pos d, e1]
    exact z_CIi (t_X8_relation hT ⟨fun _ => ⟨s1, True.intro⟩, True.intro⟩ ⟨_, _, rfl, rfl, by rw [ef]; exact k⟩)
/-- LOG -/
def z_ql (A : z_A) (i p : Int) : Int := if i < 0 ∨ ¬ (0 ≤ p ∧ p ≤ 2) then -1 else if A 10 0 ≤ i then -2 else if p = 0 then A 11 i else if p = 1 then A 12 i else A 13 i
theorem c_log {sh : List z_C} {w : z_Mm} {A : z_A} {H : List z_A} {i p : Int} {K : Int → z_Mm → Prop} (hT : z_isTG sh 0) (hs : z_cs w A H) (k : K (z_ql A i p) w) : z_CI mX8_log [z_r 0, z_i i, z_i p] sh w K := by
  obtain ⟨hA, hp, hn, -, -⟩ := hs
  obtain ⟨l1, l2, l3, l4⟩ := hp.2.2.1
  have e2 : w 10 2 = A 10 0 := l2
  have l3' : 0 ≤ w 10 1 ∧ w 10 1 < 40 := l3
  have ef : f_X8_log w i p = z_ql A i p := by
    unfold f_X8_log z_ql
    by_cases c1 : i < 0
    · rw [if_pos c1, if_pos (Or.inl c1)]
    · by_cases c2 : p < 0
      · rw [if_neg c1, if_pos c2, if_pos (by omega)]
      · by_cases c3 : p ≤ 2
        · rw [if_neg c1, if_neg c2, if_pos c3, if_neg (show ¬ (i < 0 ∨ ¬ (0 ≤ p ∧ p ≤ 2)) by omega), e2]
          by_cases c4 : A 10 0 ≤ i
          · rw [if_pos c4, if_pos c4]
          · rw [if_neg c4, if_neg c4]
            obtain ⟨a, b, c⟩ := l4 i (by omega) (by omega)
            unfold f_X1_part
            rw [z_tm (by omega)]
            have hp3 : p = 0 ∨ p = 1 ∨ p = 2 := by omega
            rcases hp3 with rfl | rfl | rfl
            · rw [Int.add_zero]; exact a
            · exact b
            · exact c
        · rw [if_neg c1, if_neg c2, if_neg c3, if_pos (by omega)]
  refine z_CIi (t_X8_log hT ⟨fun c1 => ⟨fun c2 => ⟨fun c3 => ⟨fun c4 => ⟨?_, True.intro⟩, True.intro⟩, True.intro⟩, True.intro⟩, True.intro⟩ ⟨_, _, rfl, rfl, by rw [ef]; exact k⟩)
  unfold s_X1_part
  rw [z_tm (by omega)]
  exact ⟨⟨by omega, by omega⟩, ⟨by omega, by omega⟩, ⟨by omega, by omega⟩, ⟨by omega, by omega⟩, True.intro⟩
