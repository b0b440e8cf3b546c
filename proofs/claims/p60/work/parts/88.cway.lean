/-! WAY and WAYLENGTH, the class -/
def z_frX (w w' : z_Mm) : Prop := (∀ a : Nat, (a < 161 ∨ 176 < a ∨ a = 162 ∨ a = 166 ∨ a = 167) → w' a = w a) ∧ w' 161 1 = w 161 1 ∧ w' 161 2 = w 161 2
theorem z_frX.rf {w : z_Mm} : z_frX w w := ⟨fun _ _ => rfl, rfl, rfl⟩
theorem z_frX.trans {w w1 w2 : z_Mm} (h1 : z_frX w w1) (h2 : z_frX w1 w2) : z_frX w w2 := ⟨fun a h => (h2.1 a h).trans (h1.1 a h), h2.2.1.trans h1.2.1, h2.2.2.trans h1.2.2⟩
theorem z_frM.X {w w' : z_Mm} (h : z_frM w w') : z_frX w w' := ⟨fun a ha => h.1 a (by omega) (by omega) (by omega) (by omega) (by omega), h.2 1 (by omega) (by omega), h.2 2 (by omega) (by omega)⟩
theorem z_net.WW {w : z_Mm} {A : z_A} (h : z_net w 12 A (-1)) (hA : z_okg A) (hb : z_bears A) {a b : Int} (ha : z_bl (A 1 0) a) (hb' : z_bl (A 1 0) b) : w 17 (a * 10 + b) = z_WW A a b :=
  z_IsD_uniq h.1.2 (z_WW_is hA hb) ha hb'
theorem z_WW_R {A : z_A} (hA : z_okg A) (hb : z_bears A) {a b : Int} (ha : z_bl (A 1 0) a) (hb' : z_bl (A 1 0) b) : -64000 ≤ z_WW A a b ∧ z_WW A a b ≤ 64000 := by
  have h1 := z_cn_R hA hb ha hb'
  have h2 := z_dd_R (lo := -1) hA hb ha hb'
  have r1 := hA.2.1
  unfold z_cn at h1
  omega
theorem c_firstStep {sh : List z_C} {w : z_Mm} {A : z_A} {a b : Int} {K : Int → z_Mm → Prop} (hT : z_isTG sh 0) (hA : z_okg A) (hb : z_bears A) (hn : z_net w 12 A (-1)) (ha : z_bl (A 1 0) a) (hb' : z_bl (A 1 0) b) (hab : a ≠ b)
    (k : K (z_nxi A b a) w) : z_CI mX2_firstStep [z_r 12, z_i a, z_i b] sh w K := by
  have r1 := hA.2.1
  have hN : z_isNet sh 12 := hT.2.2.1
  obtain ⟨⟨x0, x1, x2, x3⟩, -⟩ := z_nx_ok hA hb ha hb' hab
  have a0 := ha.1
  have a1 := ha.2
  have b0 := hb'.1
  have b1 := hb'.2
  have hl := z_Sx_len hA (-1)
  have h5 : w 12 5 = ((z_Sx A (-1)).length : Int) := hn.2.1
  have body : ∀ i : Int, 0 ≤ i → i < ((z_Sx A (-1)).length : Int) → ∀ Q : Option z_V → z_S → Prop, (z_pst A b a i → Q (some (z_i i)) (sh, w)) → (¬ z_pst A b a i → z_Sem mX2_firstStep (sh.length, 0) 15 [(0, z_r 12), (1, z_i a), (2, z_i b), (3, z_i (z_WW A a b)), (4, z_i (i + 1))] [] (sh, w) Q) → z_Sem mX2_firstStep (sh.length, 0) 15 [(0, z_r 12), (1, z_i a), (2, z_i b), (3, z_i (z_WW A a b)), (4, z_i i)] [] (sh, w) Q := by
    intro i i0 i1 Q q1 q2
    have hk : (z_Sx A (-1))[i.toNat]? = some ((z_Sx A (-1))[i.toNat]'(by omega)) := List.getElem?_eq_getElem (by omega)
    generalize (z_Sx A (-1))[i.toNat]'(by omega) = q at hk
    have hq := List.mem_of_getElem? hk
    obtain ⟨w1, w2⟩ := z_Sx_wf hA (-1) q hq
    have rq := z_Sx_R hA hq
    obtain ⟨m1, m2, m3, -⟩ := hn.2.2 _ q hk
    rw [show ((i.toNat : Nat) : Int) = i by omega] at m1 m2 m3
    have e1 : w 13 i = q.1 := m1
    have e2 : w 14 i = q.2.1 := m2
    have e3 : w 15 i = q.2.2.1 := m3
    have c0 := w2.1
    have c1 := w2.2
    have rW := z_WW_R hA hb w2 hb'
    refine t_X2_firstStep_15 hN ⟨fun c => absurd c (by rw [h5]; omega), fun _ => ?_⟩
    rw [show w (12 + 2) i = q.2.1 from m2, show w (12 + 1) i = q.1 from m1, show w (12 + 3) i = q.2.2.1 from m3]
    refine ⟨⟨by omega, by omega⟩, ⟨by omega, by omega⟩, ⟨by omega, by omega⟩, ⟨by omega, by omega⟩, fun y6 e6 => ⟨⟨by omega, by omega⟩, fun d1 => ⟨⟨by omega, by omega⟩, ?_⟩, fun d1 => ⟨⟨by omega, by omega⟩, q2 ?_⟩⟩⟩
    · rw [show w (12 + 5) (q.2.1 * 10 + b) = z_WW A q.2.1 b from hn.WW hA hb w2 hb'] at e6
      have ew : f_X2_weightOf w q.2.2.1 = 64 * q.2.2.1 + 1 := by
        show q.2.2.1 * 64 + 1 = _
        omega
      rw [ew, e6]
      refine ⟨⟨⟨by omega, by omega⟩, ⟨by omega, by omega⟩, True.intro⟩, ⟨by omega, by omega⟩, fun d2 => q1 ⟨q, hk, d1, d2⟩, fun d2 => ⟨⟨by omega, by omega⟩, q2 ?_⟩⟩
      rintro ⟨q', hq', -, f2⟩
      rw [hk] at hq'
      cases hq'
      exact d2 f2
    · rintro ⟨q', hq', f1, -⟩
      rw [hk] at hq'
      cases hq'
      exact d1 f1
  refine z_CIi (t_X2_firstStep hN ⟨⟨by omega, by omega⟩, ⟨by omega, by omega⟩, ⟨by omega, by omega⟩, fun y4 e4 => ?_⟩)
  rw [show w (12 + 5) (a * 10 + b) = z_WW A a b from hn.WW hA hb ha hb'] at e4
  subst e4
  refine z_for (n := z_nxi A b a) (i0 := 0) (fun i v => z_Sem mX2_firstStep (sh.length, 0) 15 [(0, z_r 12), (1, z_i a), (2, z_i b), (3, z_i (z_WW A a b)), (4, z_i i)] [] (sh, v) _) (fun i v => v = w) (by omega) rfl ?_ ?_
  · rintro v rfl
    exact body _ x0 x1 _ (fun _ => ⟨_, _, rfl, rfl, k⟩) (fun c => absurd x2 c)
  · rintro i v i0 i1 rfl kk
    exact body i i0 (by omega) _ (fun c => absurd c (x3 i i0 i1)) (fun _ => kk v rfl)
theorem c_stepOfWay {sh : List z_C} {w : z_Mm} {A : z_A} {a b i : Int} {K : Int → z_Mm → Prop} (hT : z_isTG sh 0) (hA : z_okg A) (hb : z_bears A) (hn : z_net w 12 A (-1)) (ha : z_bl (A 1 0) a) (hb' : z_bl (A 1 0) b) (hi : 0 ≤ i)
    (k : K (z_wy A a b i) w) : z_CI mX2_stepOfWay [z_r 12, z_i a, z_i b, z_i i] sh w K := by
  have r1 := hA.2.1
  have hN : z_isNet sh 12 := hT.2.2.1
  have hl := z_Sx_len hA (-1)
  have rc := z_cn_R hA hb ha hb'
  unfold z_wy at k
  refine z_CIi (t_X2_stepOfWay hN ?_)
  refine z_for (n := if i < z_cn A a b then i else z_cn A a b) (i0 := 0) (fun j v => z_Sem mX2_stepOfWay (sh.length, 0) 6 [(0, z_r 12), (2, z_i b), (3, z_i i), (4, z_i (z_nd A b a j.toNat)), (5, z_i j)] [] (sh, v) _) (fun j v => v = w) (by split <;> omega) rfl ?_ ?_
  · rintro v rfl
    by_cases c : i < z_cn A a b
    · rw [if_pos c] at k ⊢
      obtain ⟨n1, n2⟩ := z_nd_ok hA hb ha hb' i.toNat (by omega)
      have hne : z_nd A b a i.toNat ≠ b := fun q => by
        have := (z_cn_0 hA hb n1 hb').mpr q
        omega
      obtain ⟨⟨x0, x1, -, -⟩, x5, -⟩ := z_nx_ok hA hb n1 hb' hne
      refine t_X2_stepOfWay_6 hN ⟨fun q => absurd q (by omega), fun _ => ⟨fun q => absurd q hne, fun _ => ?_⟩⟩
      refine c_firstStep hT hA hb hn n1 hb' hne ⟨fun q => absurd q (by omega), fun _ => ⟨fun _ => ⟨⟨by omega, by omega⟩, ?_⟩, fun q => absurd rfl q⟩⟩
      have e4 := (hn.2.2 _ _ x5).2.2.2
      rw [show (((z_nxi A b (z_nd A b a i.toNat)).toNat : Nat) : Int) = z_nxi A b (z_nd A b a i.toNat) by omega] at e4
      rw [e4]
      exact ⟨_, _, rfl, rfl, k⟩
    · rw [if_neg c] at k ⊢
      obtain ⟨n1, n2⟩ := z_nd_ok hA hb ha hb' (z_cn A a b).toNat (by omega)
      have hne : z_nd A b a (z_cn A a b).toNat = b := (z_cn_0 hA hb n1 hb').mp (by omega)
      exact t_X2_stepOfWay_6 hN ⟨fun q => absurd q (by omega), fun _ => ⟨fun _ => ⟨_, _, rfl, rfl, k⟩, fun q => absurd hne q⟩⟩
  · rintro j v j0 j1 rfl kk
    have kk' := kk v rfl
    have jc : j < z_cn A a b ∧ j ≠ i := by
      revert j1
      split <;> intro j1 <;> omega
    obtain ⟨n1, n2⟩ := z_nd_ok hA hb ha hb' j.toNat (by omega)
    have hne : z_nd A b a j.toNat ≠ b := fun q => by
      have := (z_cn_0 hA hb n1 hb').mpr q
      omega
    obtain ⟨⟨x0, x1, -, -⟩, x5, -⟩ := z_nx_ok hA hb n1 hb' hne
    rw [z_nd_s j0] at kk'
    refine t_X2_stepOfWay_6 hN ⟨fun q => absurd q (by omega), fun _ => ⟨fun q => absurd q hne, fun _ => ?_⟩⟩
    refine c_firstStep hT hA hb hn n1 hb' hne ⟨fun q => absurd q (by omega), fun _ => ⟨fun q => absurd q jc.2, fun _ => ⟨⟨by omega, by omega⟩, fun y8 e8 => ⟨⟨by omega, by omega⟩, ?_⟩⟩⟩⟩
    have e4 := (hn.2.2 _ _ x5).2.1
    rw [show (((z_nxi A b (z_nd A b a j.toNat)).toNat : Nat) : Int) = z_nxi A b (z_nd A b a j.toNat) by omega] at e4
    rw [e8, e4]
    exact kk'
noncomputable def z_qwy (A : z_A) (a b i : Int) : Int := if (0 ≤ a ∧ a < A 1 0) ∧ (0 ≤ b ∧ b < A 1 0) ∧ a ≠ b then (if 0 ≤ i then z_wy A a b i else -1) else -1
theorem c_way {sh : List z_C} {w : z_Mm} {A : z_A} {H : List z_A} {a b i : Int} {K : Int → z_Mm → Prop} (hT : z_isTG sh 0) (hs : z_cs w A H) (k : K (z_qwy A a b i) w) : z_CI mX8_way [z_r 0, z_i a, z_i b, z_i i] sh w K := by
  obtain ⟨hA, hp, hn, -, -⟩ := hs
  have p10 : w 1 10 = A 1 0 := hp.1.2.1
  have h1 := z_f2e (w := w) (a := a) (b := b)
  rw [p10] at h1
  unfold z_qwy at k
  refine z_CIi (t_X8_way hT ⟨fun c => ?_, fun c => ⟨fun c2 => ?_, fun c2 => ?_⟩⟩)
  · rw [if_neg (h1.mp c)] at k
    exact ⟨_, _, rfl, rfl, k⟩
  · have d : (0 ≤ a ∧ a < A 1 0) ∧ (0 ≤ b ∧ b < A 1 0) ∧ a ≠ b := Classical.byContradiction fun q => c (h1.mpr q)
    rw [if_pos d, if_pos c2] at k
    exact c_stepOfWay hT hA.1 hA.2.1 hn d.1 d.2.1 c2 ⟨_, _, rfl, rfl, k⟩
  · have d : (0 ≤ a ∧ a < A 1 0) ∧ (0 ≤ b ∧ b < A 1 0) ∧ a ≠ b := Classical.byContradiction fun q => c (h1.mpr q)
    rw [if_pos d, if_neg c2] at k
    exact ⟨_, _, rfl, rfl, k⟩
noncomputable def z_qwl (A : z_A) (a b : Int) : Int := if (0 ≤ a ∧ a < A 1 0) ∧ (0 ≤ b ∧ b < A 1 0) ∧ a ≠ b then z_cn A a b else -1
theorem c_wayLength {sh : List z_C} {w : z_Mm} {A : z_A} {H : List z_A} {a b : Int} {K : Int → z_Mm → Prop} (hT : z_isTG sh 0) (hs : z_cs w A H) (k : K (z_qwl A a b) w) : z_CI mX8_wayLength [z_r 0, z_i a, z_i b] sh w K := by
  obtain ⟨hA, hp, hn, -, -⟩ := hs
  have p10 : w 1 10 = A 1 0 := hp.1.2.1
  have r1 := hA.1.2.1
  have h1 := z_f2e (w := w) (a := a) (b := b)
  rw [p10] at h1
  by_cases c : f_X8_areTwoEvents w a b = 0
  · have ef : f_X8_wayLength w a b = z_qwl A a b := by
      unfold f_X8_wayLength z_qwl
      rw [if_pos c, if_neg (h1.mp c)]
    exact z_CIi (t_X8_wayLength hT ⟨fun q => absurd c q, True.intro⟩ ⟨_, _, rfl, rfl, by rw [ef]; exact k⟩)
  · have d : (0 ≤ a ∧ a < A 1 0) ∧ (0 ≤ b ∧ b < A 1 0) ∧ a ≠ b := Classical.byContradiction fun q => c (h1.mpr q)
    have rW := z_WW_R hA.1 hA.2.1 d.1 d.2.1
    have rc := z_cn_R hA.1 hA.2.1 d.1 d.2.1
    have hW : z_R (z_WW A a b) := ⟨by omega, by omega⟩
    have eW : w (12 + 5) (a * 10 + b) = z_WW A a b := hn.WW hA.1 hA.2.1 d.1 d.2.1
    have ef : f_X8_wayLength w a b = z_qwl A a b := by
      unfold f_X8_wayLength z_qwl f_X2_stepsBetween
      rw [if_neg c, if_pos d, eW, z_ffm hW]
      unfold z_cn at rc ⊢
      omega
    refine z_CIi (t_X8_wayLength hT ⟨fun _ => ⟨⟨⟨by omega, by omega⟩, ⟨by omega, by omega⟩, ⟨by omega, by omega⟩, ?_, True.intro⟩, True.intro⟩, True.intro⟩ ⟨_, _, rfl, rfl, by rw [ef]; exact k⟩)
    rw [eW]
    exact z_sfm hW
