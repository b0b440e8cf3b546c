/-! WHY and RING -/
def z_tll (A : z_A) (one oth kd n : Int) : Prop := (0 ≤ one ∧ one < A 1 0) ∧ (0 ≤ oth ∧ oth < A 1 0) ∧ one ≠ oth ∧ (0 ≤ kd ∧ kd ≤ 1) ∧ (0 ≤ n ∧ n ≤ 999)
def z_bg (kd one oth : Int) : Int := if kd = 0 then one else oth
theorem z_bg_bl {A : z_A} {kd one oth : Int} (h1 : z_bl (A 1 0) one) (h2 : z_bl (A 1 0) oth) : z_bl (A 1 0) (z_bg kd one oth) := by
  unfold z_bg
  split <;> assumption
theorem z_bg_ne {kd one oth : Int} (h : one ≠ oth) : z_bg kd oth one ≠ z_bg kd one oth := by
  unfold z_bg
  split <;> omega
/-- one step makes a ring that denies -/
def z_osd (A : z_A) (p q l k : Int) : Prop := ∃ r, (z_Sx A (-1))[k.toNat]? = some r ∧ r.1 = q ∧ r.2.1 = p ∧ l + r.2.2.1 < 0
noncomputable def z_os (A : z_A) (one oth kd n : Int) : Int := z_fi1 (z_osd A (z_bg kd one oth) (z_bg kd oth one) (if kd = 0 then n else -n)) ((z_Sx A (-1)).length : Int)
noncomputable def z_qy (A : z_A) (one oth kd n dp : Int) : Int :=
  if (0 ≤ one ∧ one < A 1 0) ∧ (0 ≤ oth ∧ oth < A 1 0) ∧ one ≠ oth ∧ (0 ≤ kd ∧ kd ≤ 1) ∧ (0 ≤ n ∧ n ≤ 999) then
    (if 0 ≤ dp ∧ dp ≤ 2 then (if z_lr A (-1) one oth kd n < 0 then (if dp = 0 then (if z_os A one oth kd n = -2 then 2 else 1) else if dp = 1 then - z_lr A (-1) one oth kd n else z_wy A (z_bg kd oth one) (z_bg kd one oth) 0) else if dp = 0 then 0 else -2) else -1) else -1
theorem z_lr_R {A : z_A} {lo one oth kd n : Int} (hA : z_okg A) (hb : z_bears A) (h1 : z_bl (A 1 0) one) (h2 : z_bl (A 1 0) oth) (hn : 0 ≤ n ∧ n ≤ 999) : -1998 ≤ z_lr A lo one oth kd n ∧ z_lr A lo one oth kd n ≤ 1998 := by
  have := z_dd_R (lo := lo) hA hb (z_bg_bl (kd := kd) h2 h1) (z_bg_bl (kd := kd) h1 h2)
  show -1998 ≤ (if kd = 0 then n else -n) + z_dd A lo (z_bg kd oth one) (z_bg kd one oth) ∧ (if kd = 0 then n else -n) + z_dd A lo (z_bg kd oth one) (z_bg kd one oth) ≤ 1998
  split <;> omega
theorem c_oneStep {sh : List z_C} {w : z_Mm} {A : z_A} {one oth kd n : Int} {K : Int → z_Mm → Prop} (hT : z_isTG sh 0) (hA : z_okg A) (hn : z_net w 12 A (-1)) (hc : 0 ≤ n ∧ n ≤ 999)
    (k : K (if z_os A one oth kd n = -2 then 0 else 1) w) : z_CI mX2_oneStepDenies [z_r 12, z_i one, z_i oth, z_i kd, z_i n] sh w K := by
  have hN : z_isNet sh 12 := hT.2.2.1
  have hl := z_Sx_len hA (-1)
  have h5 : w 12 5 = ((z_Sx A (-1)).length : Int) := hn.2.1
  have eL : f_X8_stepLength w kd n = if kd = 0 then n else -n := rfl
  have sL : s_X8_stepLength w kd n := ⟨fun _ => ⟨⟨by omega, by omega⟩, True.intro⟩, True.intro⟩
  have hf : z_ffi (z_osd A (z_bg kd one oth) (z_bg kd oth one) (if kd = 0 then n else -n)) ((z_Sx A (-1)).length : Int) (z_os A one oth kd n) := z_fi1_is (by omega)
  refine z_CIi (t_X2_oneStepDenies hN (fun y1 e1 y2 e2 => ?_))
  rw [show f_X8_stepBegin w one oth kd = z_bg kd one oth from rfl] at e1
  rw [show f_X8_stepFinish w one oth kd = z_bg kd oth one from rfl] at e2
  subst e1 e2
  have body : ∀ i : Int, 0 ≤ i → i < ((z_Sx A (-1)).length : Int) → ∀ Q : Option z_V → z_S → Prop, (z_osd A (z_bg kd one oth) (z_bg kd oth one) (if kd = 0 then n else -n) i → Q (some (z_i 1)) (sh, w)) → (¬ z_osd A (z_bg kd one oth) (z_bg kd oth one) (if kd = 0 then n else -n) i → z_Sem mX2_oneStepDenies (sh.length, 0) 19 [(0, z_r 12), (3, z_i kd), (4, z_i n), (5, z_i (z_bg kd one oth)), (6, z_i (z_bg kd oth one)), (7, z_i (i + 1))] [] (sh, w) Q) → z_Sem mX2_oneStepDenies (sh.length, 0) 19 [(0, z_r 12), (3, z_i kd), (4, z_i n), (5, z_i (z_bg kd one oth)), (6, z_i (z_bg kd oth one)), (7, z_i i)] [] (sh, w) Q := by
    intro i i0 i1 Q q1 q2
    have hk : (z_Sx A (-1))[i.toNat]? = some ((z_Sx A (-1))[i.toNat]'(by omega)) := List.getElem?_eq_getElem (by omega)
    generalize (z_Sx A (-1))[i.toNat]'(by omega) = q at hk
    have rq := z_Sx_R hA (List.mem_of_getElem? hk)
    obtain ⟨m1, m2, m3, -⟩ := hn.2.2 _ q hk
    rw [show ((i.toNat : Nat) : Int) = i by omega] at m1 m2 m3
    have no : ∀ r, (z_Sx A (-1))[i.toNat]? = some r → r = q := fun r hr => by rw [hk] at hr; cases hr; rfl
    have rl : -999 ≤ (if kd = 0 then n else -n) ∧ (if kd = 0 then n else -n) ≤ 999 := by split <;> omega
    refine t_X2_oneStepDenies_19 hN ⟨fun c => absurd c (by rw [h5]; omega), fun _ => ?_⟩
    rw [m1, m2, m3, eL]
    refine ⟨⟨by omega, by omega⟩, fun d1 => ⟨⟨by omega, by omega⟩, fun d2 => ⟨⟨by omega, by omega⟩, sL, ⟨by omega, by omega⟩, fun d3 => ⟨⟨by omega, by omega⟩, q2 ?_⟩, fun d3 => ?_⟩, fun d2 => ⟨⟨by omega, by omega⟩, q2 ?_⟩⟩, fun d1 => ⟨⟨by omega, by omega⟩, q2 ?_⟩⟩
    · rintro ⟨r, hr, f1, f2, f3⟩
      rw [no r hr] at f3
      omega
    · exact q1 ⟨q, hk, d1, d2, by omega⟩
    · rintro ⟨r, hr, f1, f2, f3⟩
      rw [no r hr] at f2
      exact d2 f2
    · rintro ⟨r, hr, f1, f2, f3⟩
      rw [no r hr] at f1
      exact d1 f1
  rcases hf with ⟨e, hno⟩ | ⟨x0, x1, x2, x3⟩
  · rw [if_pos e] at k
    refine z_for (n := ((z_Sx A (-1)).length : Int)) (i0 := 0) (fun i v => z_Sem mX2_oneStepDenies (sh.length, 0) 19 [(0, z_r 12), (3, z_i kd), (4, z_i n), (5, z_i (z_bg kd one oth)), (6, z_i (z_bg kd oth one)), (7, z_i i)] [] (sh, v) _) (fun i v => v = w) (by omega) rfl ?_ ?_
    · rintro v rfl
      exact t_X2_oneStepDenies_19 hN ⟨fun _ => ⟨_, _, rfl, rfl, k⟩, fun c => absurd (Int.le_of_eq h5) c⟩
    · rintro i v i0 i1 rfl kk
      exact body i i0 i1 _ (fun c => absurd c (hno i i0 i1)) (fun _ => kk v rfl)
  · rw [if_neg (by omega)] at k
    refine z_for (n := z_os A one oth kd n) (i0 := 0) (fun i v => z_Sem mX2_oneStepDenies (sh.length, 0) 19 [(0, z_r 12), (3, z_i kd), (4, z_i n), (5, z_i (z_bg kd one oth)), (6, z_i (z_bg kd oth one)), (7, z_i i)] [] (sh, v) _) (fun i v => v = w) (by omega) rfl ?_ ?_
    · rintro v rfl
      exact body _ x0 x1 _ (fun _ => ⟨_, _, rfl, rfl, k⟩) (fun c => absurd x2 c)
    · rintro i v i0 i1 rfl kk
      exact body i i0 (by omega) _ (fun c => absurd c (x3 i i0 i1)) (fun _ => kk v rfl)
theorem c_stepOfRing {sh : List z_C} {w : z_Mm} {A : z_A} {one oth kd i : Int} {K : Int → z_Mm → Prop} (hT : z_isTG sh 0) (hA : z_okg A) (hb : z_bears A) (hn : z_net w 12 A (-1)) (h1 : z_bl (A 1 0) one) (h2 : z_bl (A 1 0) oth) (hi : 0 ≤ i)
    (k : K (z_wy A (z_bg kd oth one) (z_bg kd one oth) i) w) : z_CI mX8_stepOfRing [z_r 0, z_i one, z_i oth, z_i kd, z_i i] sh w K := by
  refine z_CIi (t_X8_stepOfRing hT ?_)
  rw [show f_X8_stepFinish w one oth kd = z_bg kd oth one from rfl, show f_X8_stepBegin w one oth kd = z_bg kd one oth from rfl]
  exact c_stepOfWay hT hA hb hn (z_bg_bl h2 h1) (z_bg_bl h1 h2) hi ⟨_, _, rfl, rfl, k⟩
theorem c_why {sh : List z_C} {w : z_Mm} {A : z_A} {H : List z_A} {one oth kd n dp : Int} {K : Int → z_Mm → Prop} (hT : z_isTG sh 0) (hs : z_cs w A H) (k : K (z_qy A one oth kd n dp) w) : z_CI mX8_why [z_r 0, z_i one, z_i oth, z_i kd, z_i n, z_i dp] sh w K := by
  obtain ⟨hA, hp, hn, -, -⟩ := hs
  have p10 : w 1 10 = A 1 0 := hp.1.2.1
  have h1 := z_ftl (w := w) (one := one) (oth := oth) (kd := kd) (n := n)
  rw [p10] at h1
  have hsv := z_sv_A hA.1 hA.2.1 (-1)
  unfold z_qy at k
  refine z_CIi (t_X8_why hT ⟨fun c => ?_, fun c => ?_⟩)
  · rw [if_neg (h1.mp c)] at k
    exact ⟨_, _, rfl, rfl, k⟩
  have d : (0 ≤ one ∧ one < A 1 0) ∧ (0 ≤ oth ∧ oth < A 1 0) ∧ one ≠ oth ∧ (0 ≤ kd ∧ kd ≤ 1) ∧ (0 ≤ n ∧ n ≤ 999) := Classical.byContradiction fun q => c (h1.mpr q)
  obtain ⟨d1, d2, d3, d4, d5⟩ := id d
  rw [if_pos d] at k
  have rl := z_lr_R (lo := -1) (kd := kd) hA.1 hA.2.1 d1 d2 d5
  have el : f_X2_leastRing w 12 one oth kd n = z_lr A (-1) one oth kd n := z_flr hsv hn.1 d1 d2
  refine ⟨fun c2 => ?_, fun c2 => ⟨fun c3 => ⟨z_slr hsv hn.1 d1 d2 d5, fun y5 e5 => ?_⟩, fun c3 => ?_⟩⟩
  · rw [if_neg (by omega)] at k
    exact ⟨_, _, rfl, rfl, k⟩
  · rw [el] at e5
    rw [if_pos (by omega)] at k
    refine ⟨fun c4 => ?_, fun c4 => ?_⟩
    · rw [if_pos (by omega)] at k
      refine ⟨fun c5 => ?_, fun c5 => ?_, fun c5 => ?_⟩
      · rw [if_pos c5] at k
        refine c_oneStep hT hA.1 hn d5 ⟨_, _, rfl, rfl, ?_⟩
        have ev : (if (if z_os A one oth kd n = -2 then (0 : Int) else 1) = 0 then (2 : Int) else 1) = if z_os A one oth kd n = -2 then 2 else 1 := by
          by_cases q : z_os A one oth kd n = -2
          · rw [if_pos q, if_pos q, if_pos rfl]
          · rw [if_neg q, if_neg q, if_neg (by omega)]
        rw [ev]
        exact k
      · rw [if_neg (by omega), if_pos c5] at k
        rw [e5]
        exact ⟨⟨by omega, by omega⟩, _, _, rfl, rfl, k⟩
      · rw [if_neg c5.1, if_neg c5.2] at k
        exact c_stepOfRing hT hA.1 hA.2.1 hn d1 d2 (by omega) ⟨_, _, rfl, rfl, k⟩
    · rw [if_neg (by omega)] at k
      exact ⟨_, _, rfl, rfl, k⟩
  · rw [if_neg (by omega)] at k
    exact ⟨_, _, rfl, rfl, k⟩
/-- RING -/
noncomputable def z_qri (A : z_A) (one oth kd n i : Int) : Int :=
  if (0 ≤ one ∧ one < A 1 0) ∧ (0 ≤ oth ∧ oth < A 1 0) ∧ one ≠ oth ∧ (0 ≤ kd ∧ kd ≤ 1) ∧ (0 ≤ n ∧ n ≤ 999) then
    (if 0 ≤ i then (if z_lr A (-1) one oth kd n < 0 then z_wy A (z_bg kd oth one) (z_bg kd one oth) i else -2) else -1) else -1
theorem c_ring {sh : List z_C} {w : z_Mm} {A : z_A} {H : List z_A} {one oth kd n i : Int} {K : Int → z_Mm → Prop} (hT : z_isTG sh 0) (hs : z_cs w A H) (k : K (z_qri A one oth kd n i) w) : z_CI mX8_ring [z_r 0, z_i one, z_i oth, z_i kd, z_i n, z_i i] sh w K := by
  obtain ⟨hA, hp, hn, -, -⟩ := hs
  have p10 : w 1 10 = A 1 0 := hp.1.2.1
  have h1 := z_ftl (w := w) (one := one) (oth := oth) (kd := kd) (n := n)
  rw [p10] at h1
  have hsv := z_sv_A hA.1 hA.2.1 (-1)
  unfold z_qri at k
  refine z_CIi (t_X8_ring hT ⟨fun c => ?_, fun c => ?_⟩)
  · rw [if_neg (h1.mp c)] at k
    exact ⟨_, _, rfl, rfl, k⟩
  have d : (0 ≤ one ∧ one < A 1 0) ∧ (0 ≤ oth ∧ oth < A 1 0) ∧ one ≠ oth ∧ (0 ≤ kd ∧ kd ≤ 1) ∧ (0 ≤ n ∧ n ≤ 999) := Classical.byContradiction fun q => c (h1.mpr q)
  obtain ⟨d1, d2, d3, d4, d5⟩ := id d
  rw [if_pos d] at k
  have el : f_X2_leastRing w 12 one oth kd n = z_lr A (-1) one oth kd n := z_flr hsv hn.1 d1 d2
  refine ⟨fun c2 => ?_, fun c2 => ?_⟩
  · rw [if_pos c2] at k
    rw [el]
    refine ⟨z_slr hsv hn.1 d1 d2 d5, fun c4 => ?_, fun c4 => ?_⟩
    · rw [if_pos c4] at k
      exact c_stepOfRing hT hA.1 hA.2.1 hn d1 d2 c2 ⟨_, _, rfl, rfl, k⟩
    · rw [if_neg c4] at k
      exact ⟨_, _, rfl, rfl, k⟩
  · rw [if_neg c2] at k
    exact ⟨_, _, rfl, rfl, k⟩
/-! the reference lays a step aside -/
