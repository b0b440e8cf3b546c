/-! WHY and RING -/
def z_tll (A : z_A) (one oth kd n : Int) : Prop := (0 ≤ one ∧ one < A 1 0) ∧ (0 ≤ oth ∧ oth < A 1 0) ∧ one ≠ oth ∧ (0 ≤ kd ∧ kd ≤ 1) ∧ (0 ≤ n ∧ n ≤ 999)
def z_bg (kd one oth : Int) : Int := if kd = 0 then one else oth
theorem z_bg_bl {A : z_A} {kd one oth : Int} (h1 : z_bl (A 1 0) one) (h2 : z_bl (A 1 0) oth) : z_bl (A 1 0) (z_bg kd one oth) := by
  unfold z_bg
  split <;> assumption
theorem z_bg_ne {kd one oth : Int} (h : one ≠ oth) : z_bg kd oth one ≠ z_bg kd one oth := by
  unfold z_bg
  split <;> omega
/-- one step makes a ring that denies -/
def z_osd (A : z_A) (p q l k : Int) : Prop := ∃ r, (z_Sx A (-1))[k.toNat]? = some r ∧ r.1 = q ∧ r.2.1 = p ∧ l + r.2.2.1 < 0
noncomputable def z_os (A : z_A) (one oth kd n : Int) : Int := z_fi1 (z_osd A (z_bg kd one oth) (z_bg kd oth one) (if kd = 0 then n else -n)) ((z_Sx A (-1)).length : Int)
noncomputable def z_qy (A : z_A) (one oth kd n dp : Int) : Int :=
  if (0 ≤ one ∧ one < A 1 0) ∧ (0 ≤ oth ∧ oth < A 1 0) ∧ one ≠ oth ∧ (0 ≤ kd ∧ kd ≤ 1) ∧ (0 ≤ n ∧ n ≤ 999) then
    (if 0 ≤ dp ∧ dp ≤ 2 then (if z_lr A (-1) one oth kd n < 0 then (if dp = 0 then (if z_os A one oth kd n = -2 then 2 else 1) else if dp = 1 then - z_lr A (-1) one oth kd n else z_wy A (z_bg kd oth one) (z_bg kd one oth) 0) else if dp = 0 then 0 else -2) else -1) else -1
theorem z_lr_R {A : z_A} {lo one oth kd n : Int} (hA : z_okg A) (hb : z_bears A) (h1 : z_bl (A 1 0) one) (h2 : z_bl (A 1 0) oth) (hn : 0 ≤ n ∧ n ≤ 999) : -1998 ≤ z_lr A lo one oth kd n ∧ z_lr A lo one oth kd n ≤ 1998 := by
  have := z_dd_R (lo := lo) hA hb (z_bg_bl (kd := kd) h2 h1) (z_bg_bl (kd := kd) h1 h2)
  show -1998 ≤ (if kd = 0 then n else -n) + z_dd A lo (z_bg kd oth one) (z_bg kd one oth) ∧ (if kd = 0 then n else -n) + z_dd A lo (z_bg kd oth one) (z_bg kd one oth) ≤ 1998
  split <;> omega
theorem c_oneStep {sh : List z_C} {w : z_Mm} {A : z_A} {one oth kd n : Int} {K : Int → z_Mm → Prop} (hT : z_isTG sh 0) (hA : z_okg A) (hn : z_net w 12 A (-1)) (hc : 0 ≤ n ∧ n ≤ 999)
    (k : K (if z_os A one oth kd n = -2 then 0 else 1) w) : z_CI mX2_oneStepDenies [z_r 12, z_i one, z_i oth, z_i kd, z_i n] sh w K := by
  have hN : z_isNet sh 12 := hT.2.2.1
  have hl := z_Sx_len hA (-1)
  have h5 : w 12 5 = ((z_Sx A (-1)).length : Int) := hn.2.1
  have eL : f_X8_stepLength w kd n = if kd = 0 then n else -n := rfl
  have sL : s_X8_stepLength w kd n := ⟨fun _ => ⟨⟨by omega, by omega⟩, True.intro⟩, True.intro⟩
  have hf : z_ffi (z_osd A (z_bg kd one oth) (z_bg kd oth one) (if kd = 0 then n else -n)) ((z_Sx A (-1)).length : Int) (z_os A one oth kd n) := z_fi1_is (by omega)
  refine z_CIi (t_X2_oneStepDenies hN (fun y1 e1 y2 e2 => ?_))
  rw [show f_X8_stepBegin w one oth kd = z_bg kd one oth from rfl] at e1
  rw [show f_X8_stepFinish w one oth kd = z_bg kd oth one from rfl] at e2
  subst e1 e2
  have body : ∀ i : Int, 0 ≤ i → i < ((z_Sx A (-1)).length : Int) → ∀ Q : Option z_V → z_S → Prop, (z_osd A (z_bg kd one oth) (z_bg kd oth one) (if kd = 0 then n else -n) i → Q (some (z_i 1)) (sh, w)) → (¬ z_osd A (z_bg kd one oth) (z_bg kd oth one) (if kd = 0 then n else -n) i → z_Sem mX2_oneStepDenies (sh.length, 0) 19 [(0, z_r 12), (3, z_i kd), (4, z_i n), (5, z_i (z_bg kd one oth)), (6, z_i (z_bg kd oth one)), (7, z_i (i + 1))] [] (sh, w) Q) → z_Sem mX2_oneStepDenies (sh.length, 0) 19 [(0, z_r 12), (3, z_i kd), (4, z_i n), (5, z_i (z_bg kd one oth)), (6, z_i (z_bg kd oth one)), (7, z_i i)] [] (sh, w) Q := by
    intro i i0 i1 Q q1 q2
    have hk : (z_Sx A (-1))[i.toNat]? = some ((z_Sx A (-1))[i.toNat]'(by omega)) := List.getElem?_eq_getElem (by omega)
    generalize (z_Sx A (-1))[i.toNat]'(by omega) = q at hk
    have rq := z_Sx_R hA (List.mem_of_getElem? hk)
    obtain ⟨m1, m2, m3, -⟩ := hn.2.2 _ q hk
    rw [show ((i.toNat : Nat) : Int) = i by omega] at m1 m2 m3
    have no : ∀ r, (z_Sx A (-1))[i.toNat]? = some r → r = q := fun r hr => by rw [hk] at hr; cases hr; rfl
    have rl : -999 ≤ (if kd = 0 then n else -n) ∧ (if kd = 0 then n else -n) ≤ 999 := by split <;> omega
    refine t_X2_oneStepDenies_19 hN ⟨fun c => absurd c (by rw [h5]; omega), fun _ => ?_⟩
    rw [m1, m2, m3, eL]
    refine ⟨⟨by omega, by omega⟩, fun d1 => ⟨⟨by omega, by omega⟩, fun d2 => ⟨⟨by omega, by omega⟩, sL, ⟨by omega, by omega⟩, fun d3 => ⟨⟨by omega, by omega⟩, q2 ?_⟩, fun d3 => ?_⟩, fun d2 => ⟨⟨by omega, by omega⟩, q2 ?_⟩⟩, fun d1 => ⟨⟨by omega, by omega⟩, q2 ?_⟩⟩
    · rintro ⟨r, hr, f1, f2, f3⟩
      rw [no r hr] at f3
      omega
    · exact q1 ⟨q, hk, d1, d2, by omega⟩
    · rintro ⟨r, hr, f1, f2, f3⟩
      rw [no r hr] at f2
      exact d2 f2
    · rintro ⟨r, hr, f1, f2, f3⟩
      rw [no r hr] at f1
      exact d1 f1
  rcases hf with ⟨e, hno⟩ | ⟨x0, x1, x2, x3⟩
  · rw [if_pos e] at k
    refine z_for (n := ((z_Sx A (-1)).length : Int)) (i0 := 0) (fun i v => z_Sem mX2_oneStepDenies (sh.length, 0) 19 [(0, z_r 12), (3, z_i kd), (4, z_i n), (5, z_i (z_bg kd one oth)), (6, z_i (z_bg kd oth one)), (7, z_i i)] [] (sh, v) _) (fun i v => v = w) (by omega) rfl ?_ ?_
    · rintro v rfl
      exact t_X2_oneStepDenies_19 hN ⟨fun _ => ⟨_, _, rfl, rfl, k⟩, fun c => absurd (Int.le_of_eq h5) c⟩
    · rintro i v i0 i1 rfl kk
      exact body i i0 i1 _ (fun c => absurd c (hno i i0 i1)) (fun _ => kk v rfl)
  · rw [if_neg (by omega)] at k
    refine z_for (n := z_os A one oth kd n) (i0 := 0) (fun i v => z_Sem mX2_oneStepDenies (sh.length, 0) 19 [(0, z_r 12), (3, z_i kd), (4, z_i n), (5, z_i (z_bg kd one oth)), (6, z_i (z_bg kd oth one)), (7, z_i i)] [] (sh, v) _) (fun i v => v = w) (by omega) rfl ?_ ?_
    · rintro v rfl
      exact body _ x0 x1 _ (fun _ => ⟨_, _, rfl, rfl, k⟩) (fun c => absurd x2 c)
    · rintro i v i0 i1 rfl kk
      exact body i i0 (by omega) _ (fun c => absurd c (x3 i i0 i1)) (fun _ => kk v rfl)
theorem c_stepOfRing {sh : List z_C} {w : z_Mm} {A : z_A} {one oth kd i : Int} {K : Int → z_Mm → Prop} (hT : z_isTG sh 0) (hA : z_okg A) (hb : z_bears A) (hn : z_net w 12 A (-1)) (h1 : z_bl (A 1 0) one) (h2 : z_bl (A 1 0) oth) (hi : 0 ≤ i)
    (k : K (z_wy A (z_bg kd oth one) (z_bg kd one oth) i) w) : z_CI mX8_stepOfRing [z_r 0, z_i one, z_i oth, z_i kd, z_i i] sh w K := by
  refine z_CIi (t_X8_stepOfRing hT ?_)
  rw [show f_X8_stepFinish w one oth kd = z_bg kd oth one from rfl, show f_X8_stepBegin w one oth kd = z_bg kd one oth from rfl]
  exact c_stepOfWay hT hA hb hn (z_bg_bl h2 h1) (z_bg_bl h1 h2) hi ⟨_, _, rfl, rfl, k⟩
theorem c_why {sh : List z_C} {w : z_Mm} {A : z_A} {H : List z_A} {one oth kd n dp : Int} {K : Int → z_Mm → Prop} (hT : z_isTG sh 0) (hs : z_cs w A H) (k : K (z_qy A one oth kd n dp) w) : z_CI mX8_why [z_r 0, z_i one, z_i oth, z_i kd, z_i n, z_i dp] sh w K := by
  obtain ⟨hA, hp, hn, -, -⟩ := hs
  have p10 : w 1 10 = A 1 0 := hp.1.2.1
  have h1 := z_ftl (w := w) (one := one) (oth := oth) (kd := kd) (n := n)
  rw [p10] at h1
  have hsv := z_sv_A hA.1 hA.2.1 (-1)
  unfold z_qy at k
  refine z_CIi (t_X8_why hT ⟨fun c => ?_, fun c => ?_⟩)
  · rw [if_neg (h1.mp c)] at k
    exact ⟨_, _, rfl, rfl, k⟩
  have d : (0 ≤ one ∧ one < A 1 0) ∧ (0 ≤ oth ∧ oth < A 1 0) ∧ one ≠ oth ∧ (0 ≤ kd ∧ kd ≤ 1) ∧ (0 ≤ n ∧ n ≤ 999) := Classical.byContradiction fun q => c (h1.mpr q)
  obtain ⟨d1, d2, d3, d4, d5⟩ := id d
  rw [if_pos d] at k
  have rl := z_lr_R (lo := -1) (kd := kd) hA.1 hA.2.1 d1 d2 d5
  have el : f_X2_leastRing w 12 one oth kd n = z_lr A (-1) one oth kd n := z_flr hsv hn.1 d1 d2
  refine ⟨fun c2 => ?_, fun c2 => ⟨fun c3 => ⟨z_slr hsv hn.1 d1 d2 d5, fun y5 e5 => ?_⟩, fun c3 => ?_⟩⟩
  · rw [if_neg (by omega)] at k
    exact ⟨_, _, rfl, rfl, k⟩
  · rw [el] at e5
    rw [if_pos (by omega)] at k
    refine ⟨fun c4 => ?_, fun c4 => ?_⟩
    · rw [if_pos (by omega)] at k
      refine ⟨fun c5 => ?_, fun c5 => ?_, fun c5 => ?_⟩
      · rw [if_pos c5] at k
        refine c_oneStep hT hA.1 hn d5 ⟨_, _, rfl, rfl, ?_⟩
        have ev : (if (if z_os A one oth kd n = -2 then (0 : Int) else 1) = 0 then (2 : Int) else 1) = if z_os A one oth kd n = -2 then 2 else 1 := by
          by_cases q : z_os A one oth kd n = -2
          · rw [if_pos q, if_pos q, if_pos rfl]
          · rw [if_neg q, if_neg q, if_neg (by omega)]
        rw [ev]
        exact k
      · rw [if_neg (by omega), if_pos c5] at k
        rw [e5]
        exact ⟨⟨by omega, by omega⟩, _, _, rfl, rfl, k⟩
      · rw [if_neg c5.1, if_neg c5.2] at k
        exact c_stepOfRing hT hA.1 hA.2.1 hn d1 d2 (by omega) ⟨_, _, rfl, rfl, k⟩
    · rw [if_neg (by omega)] at k
      exact ⟨_, _, rfl, rfl, k⟩
  · rw [if_neg (by omega)] at k
    exact ⟨_, _, rfl, rfl, k⟩
/-- RING -/
noncomputable def z_qri (A : z_A) (one oth kd n i : Int) : Int :=
  if (0 ≤ one ∧ one < A 1 0) ∧ (0 ≤ oth ∧ oth < A 1 0) ∧ one ≠ oth ∧ (0 ≤ kd ∧ kd ≤ 1) ∧ (0 ≤ n ∧ n ≤ 999) then
    (if 0 ≤ i then (if z_lr A (-1) one oth kd n < 0 then z_wy A (z_bg kd oth one) (z_bg kd one oth) i else -2) else -1) else -1
theorem c_ring {sh : List z_C} {w : z_Mm} {A : z_A} {H : List z_A} {one oth kd n i : Int} {K : Int → z_Mm → Prop} (hT : z_isTG sh 0) (hs : z_cs w A H) (k : K (z_qri A one oth kd n i) w) : z_CI mX8_ring [z_r 0, z_i one, z_i oth, z_i kd, z_i n, z_i i] sh w K := by
  obtain ⟨hA, hp, hn, -, -⟩ := hs
  have p10 : w 1 10 = A 1 0 := hp.1.2.1
  have h1 := z_ftl (w := w) (one := one) (oth := oth) (kd := kd) (n := n)
  rw [p10] at h1
  have hsv := z_sv_A hA.1 hA.2.1 (-1)
  unfold z_qri at k
  refine z_CIi (t_X8_ring hT ⟨fun c => ?_, fun c => ?_⟩)
  · rw [if_neg (h1.mp c)] at k
    exact ⟨_, _, rfl, rfl, k⟩
  have d : (0 ≤ one ∧ one < A 1 0) ∧ (0 ≤ oth ∧ oth < A 1 0) ∧ one ≠ oth ∧ (0 ≤ kd ∧ kd ≤ 1) ∧ (0 ≤ n ∧ n ≤ 999) := Classical.byContradiction fun q => c (h1.mpr q)
  obtain ⟨d1, d2, d3, d4, d5⟩ := id d
  rw [if_pos d] at k
  have el : f_X2_leastRing w 12 one oth kd n = z_lr A (-1) one oth kd n := z_flr hsv hn.1 d1 d2
  refine ⟨fun c2 => ?_, fun c2 => ?_⟩
  · rw [if_pos c2] at k
    rw [el]
    refine ⟨z_slr hsv hn.1 d1 d2 d5, fun c4 => ?_, fun c4 => ?_⟩
    · rw [if_pos c4] at k
      exact c_stepOfRing hT hA.1 hA.2.1 hn d1 d2 c2 ⟨_, _, rfl, rfl, k⟩
    · rw [if_neg c4] at k
      exact ⟨_, _, rfl, rfl, k⟩
  · rw [if_neg c2] at k
    exact ⟨_, _, rfl, rfl, k⟩
/-! the reference lays a step aside -/
theorem m_aside {sh : List z_C} {w : z_Mm} {A : z_A} {H : List z_A} {one oth kd n : Int} {K : z_Mm → Prop} (hM : z_isMod sh 161) (hs : z_ms w A H) (hA : z_okg A) (hb : z_bears A) (hl : z_ld w A) (h1 : z_bl (A 1 0) one) (h2 : z_bl (A 1 0) oth) (hn : 0 ≤ n ∧ n ≤ 999)
    (k : ∀ w', z_ms w' A H → z_ld w' A → z_frX w w' → (w' 161 23 = z_bg kd one oth ∧ w' 161 24 = z_bg kd oth one ∧ w' 161 25 = (if kd = 0 then n else -n)) → f_X9_leastRing w' = z_lr A (-1) one oth kd n → s_X9_leastRing w' → K w') : z_CV mX9_laysAside [z_r 161, z_i one, z_i oth, z_i kd, z_i n] sh w K := by
  refine z_CVi (t_X9_laysAside hM (fun w5 e5 w10 e10 => ⟨fun _ => ⟨⟨by omega, by omega⟩, True.intro⟩, fun w17 e17 => ?_⟩))
  have fr : ∀ c : Nat, c ≠ 161 → w17 c = w c := fun c hc => by rw [e17, z_Wf hc, e10, z_Wf hc, e5, z_Wf hc]
  have g1 : ∀ j : Int, j ≠ 23 → j ≠ 24 → j ≠ 25 → w17 161 j = w 161 j := fun j j1 j2 j3 => by rw [e17, z_W_ne (Or.inr j3), e10, z_W_ne (Or.inr j2), e5, z_W_ne (Or.inr j1)]
  have g23 : w17 161 23 = z_bg kd one oth := by rw [e17, z_W_ne (Or.inr (by decide)), e10, z_W_ne (Or.inr (by decide)), e5, z_W_same]; rfl
  have g24 : w17 161 24 = z_bg kd oth one := by rw [e17, z_W_ne (Or.inr (by decide)), e10, z_W_same]; rfl
  have g25 : w17 161 25 = if kd = 0 then n else -n := by rw [e17, z_W_same]
  have l17 : z_ld w17 A := hl.fr (g1 13 (by omega) (by omega) (by omega)) (fun c c0 c1 => fr c (by omega))
  have b1 := z_bg_bl (kd := kd) h1 h2
  have b2 := z_bg_bl (kd := kd) h2 h1
  obtain ⟨m1, m2⟩ := z_mbt hA hb l17 b2 b1
  have ef : f_X9_leastRing w17 = z_lr A (-1) one oth kd n := by
    unfold f_X9_leastRing
    rw [g23, g24, g25, m1]
    rfl
  have rl := z_lr_R (lo := -1) (kd := kd) hA hb h1 h2 hn
  refine ⟨w17, rfl, rfl, k w17 ⟨by rw [fr 163 (by omega)]; exact hs.1, hs.2.fr (g1 8 (by omega) (by omega) (by omega)) (fr 165 (by omega))⟩ l17 ⟨fun a ha => fr a (by omega), g1 1 (by omega) (by omega) (by omega), g1 2 (by omega) (by omega) (by omega)⟩ ⟨g23, g24, g25⟩ ef ?_⟩
  have ez : w17 161 25 + f_X9_boundOf w17 (w17 161 24) (w17 161 23) = z_lr A (-1) one oth kd n := ef
  unfold s_X9_leastRing
  rw [ez, g23, g24]
  exact ⟨m2, ⟨by omega, by omega⟩, True.intro⟩
theorem m_shortRing {sh : List z_C} {w : z_Mm} {A : z_A} {one oth kd n : Int} {K : Int → z_Mm → Prop} (hM : z_isMod sh 161) (hA : z_okg A) (hl : z_ld w A) (hn : 0 ≤ n ∧ n ≤ 999) (hg : w 161 23 = z_bg kd one oth ∧ w 161 24 = z_bg kd oth one ∧ w 161 25 = (if kd = 0 then n else -n))
    (k : K (if z_os A one oth kd n = -2 then 0 else 1) w) : z_CI mX9_isShortRing [z_r 161] sh w K := by
  obtain ⟨g23, g24, g25⟩ := hg
  have hlen := z_Sx_len hA (-1)
  have h13 : w 161 13 = ((z_Sx A (-1)).length : Int) := hl.1
  have rl : -999 ≤ (if kd = 0 then n else -n) ∧ (if kd = 0 then n else -n) ≤ 999 := by split <;> omega
  have hf : z_ffi (z_osd A (z_bg kd one oth) (z_bg kd oth one) (if kd = 0 then n else -n)) ((z_Sx A (-1)).length : Int) (z_os A one oth kd n) := z_fi1_is (by omega)
  refine z_CIi (t_X9_isShortRing hM ?_)
  refine z_forA (α := Int) (n := ((z_Sx A (-1)).length : Int)) (i0 := 0) (fun i x v => z_Sem mX9_isShortRing (sh.length, 0) 4 [(0, z_r 161), (1, z_i x), (2, z_i i)] [] (sh, v) _)
    (fun i x v => v = w ∧ ((x = 0 ∧ ∀ h : Int, 0 ≤ h → h < i → ¬ z_osd A (z_bg kd one oth) (z_bg kd oth one) (if kd = 0 then n else -n) h) ∨ (x = 1 ∧ ∃ h : Int, (0 ≤ h ∧ h < i) ∧ z_osd A (z_bg kd one oth) (z_bg kd oth one) (if kd = 0 then n else -n) h))) (by omega) ⟨rfl, Or.inl ⟨rfl, fun h h0 h1 => absurd h1 (by omega)⟩⟩ ?_ ?_
  · rintro x v ⟨rfl, hx⟩
    refine t_X9_isShortRing_4 hM ⟨fun _ => ⟨by rcases hx with ⟨h, -⟩ | ⟨h, -⟩ <;> omega, ?_⟩, fun c => absurd (Int.le_of_eq h13) c⟩
    have ex : x = if z_os A one oth kd n = -2 then 0 else 1 := by
      rcases hf with ⟨e, hno⟩ | ⟨x0, x1, x2, x3⟩
      · rw [if_pos e]
        rcases hx with ⟨h, -⟩ | ⟨-, h, h1, h2⟩
        · exact h
        · exact absurd h2 (hno h h1.1 h1.2)
      · rw [if_neg (by omega)]
        rcases hx with ⟨-, h⟩ | ⟨h, -⟩
        · exact absurd x2 (h _ x0 x1)
        · exact h
    rw [ex]
    exact ⟨_, _, rfl, rfl, k⟩
  · rintro i x v i0 i1 ⟨rfl, hx⟩ kk
    have hk : (z_Sx A (-1))[i.toNat]? = some ((z_Sx A (-1))[i.toNat]'(by omega)) := List.getElem?_eq_getElem (by omega)
    generalize (z_Sx A (-1))[i.toNat]'(by omega) = q at hk
    have rq := z_Sx_R hA (List.mem_of_getElem? hk)
    obtain ⟨m1, m2, m3, -⟩ := hl.2.1 _ q hk
    rw [show ((i.toNat : Nat) : Int) = i by omega] at m1 m2 m3
    have e1 : v 168 i = q.1 := m1
    have e2 : v 169 i = q.2.1 := m2
    have e3 : v 170 i = q.2.2.1 := m3
    have no : ∀ r, (z_Sx A (-1))[i.toNat]? = some r → r = q := fun r hr => by rw [hk] at hr; cases hr; rfl
    refine t_X9_isShortRing_4 hM ⟨fun c => absurd c (by omega), fun _ => ?_⟩
    rw [e1, e2, e3, g23, g24, g25]
    refine ⟨fun _ => ⟨⟨by omega, by omega⟩, fun _ => ⟨⟨by omega, by omega⟩, fun _ => ⟨⟨by omega, by omega⟩, ⟨by omega, by omega⟩, True.intro⟩, True.intro⟩, True.intro⟩, fun y26 e26 => ⟨⟨by omega, by omega⟩, kk y26 v ⟨rfl, ?_⟩⟩⟩
    by_cases c0 : z_osd A (z_bg kd one oth) (z_bg kd oth one) (if kd = 0 then n else -n) i
    · refine Or.inr ⟨?_, i, ⟨i0, by omega⟩, c0⟩
      obtain ⟨r, hr, f1, f2, f3⟩ := c0
      rw [no r hr] at f1 f2 f3
      rw [e26]
      rcases hx with ⟨h, -⟩ | ⟨h, -⟩
      · rw [if_pos h, if_pos f1, if_pos f2, if_neg (by omega)]
      · rw [if_neg (by omega)]
    · rcases hx with ⟨h, hh⟩ | ⟨h, j, j1, j2⟩
      · refine Or.inl ⟨?_, fun h h0 h1 => ?_⟩
        · rw [e26, if_pos h]
          by_cases f1 : q.1 = z_bg kd oth one
          · rw [if_pos f1]
            by_cases f2 : q.2.1 = z_bg kd one oth
            · rw [if_pos f2]
              by_cases f3 : 0 ≤ (if kd = 0 then n else -n) + q.2.2.1
              · rw [if_pos f3]
              · exact absurd ⟨q, hk, f1, f2, by omega⟩ c0
            · rw [if_neg f2]
          · rw [if_neg f1]
        · by_cases e : h = i
          · rw [e]; exact c0
          · exact hh h h0 (by omega)
      · exact Or.inr ⟨by rw [e26, if_neg (by omega)], j, ⟨j1.1, by omega⟩, j2⟩
theorem m_why {sh : List z_C} {w : z_Mm} {A : z_A} {H : List z_A} {one oth kd n dp : Int} {K : Int → z_Mm → Prop} (hM : z_isMod sh 161) (hs : z_ms w A H) (hA : z_okg A) (hb : z_bears A)
    (k : ∀ w', z_ms w' A H → z_frX w w' → K (z_qy A one oth kd n dp) w') : z_CI mX9_why [z_r 161, z_i one, z_i oth, z_i kd, z_i n, z_i dp] sh w K := by
  have r1 := hA.2.1
  have p1 : w 163 1 = A 1 0 := hs.1.1.2.1
  have h1 := z_fmT (w := w) (a := one) (b := oth)
  rw [p1] at h1
  have h2 := z_fmN (w := w) (a := kd) (b := n)
  have h3 := z_fin (w := w) (x := dp) (a := 0) (b := 2)
  unfold z_qy at k
  refine z_CIi (t_X9_why hM ⟨⟨z_sem (by omega), fun _ => ⟨z_sem (by omega), True.intro⟩, True.intro⟩, fun c => ?_, fun c => ⟨fun c2 => ?_, fun c2 => ⟨fun c3 => ?_, fun c3 => ?_⟩⟩⟩)
  · rw [if_neg (fun q => (h1.mp c) ⟨q.1, q.2.1, q.2.2.1⟩)] at k
    exact ⟨_, _, rfl, rfl, k w hs z_frX.rf⟩
  · rw [if_neg (fun q => (h2.mp c2) q.2.2.2)] at k
    exact ⟨_, _, rfl, rfl, k w hs z_frX.rf⟩
  · rw [if_neg (h3.mp c3)] at k
    split at k <;> exact ⟨_, _, rfl, rfl, k w hs z_frX.rf⟩
  · have e1 : (0 ≤ one ∧ one < A 1 0) ∧ (0 ≤ oth ∧ oth < A 1 0) ∧ one ≠ oth := Classical.byContradiction fun q => c (h1.mpr q)
    have e2 : (0 ≤ kd ∧ kd ≤ 1) ∧ (0 ≤ n ∧ n ≤ 999) := Classical.byContradiction fun q => c2 (h2.mpr q)
    have e3 : 0 ≤ dp ∧ dp ≤ 2 := Classical.byContradiction fun q => c3 (h3.mpr q)
    obtain ⟨d1, d2, d3⟩ := e1
    rw [if_pos ⟨d1, d2, d3, e2⟩, if_pos e3] at k
    have rl := z_lr_R (lo := -1) (kd := kd) hA hb d1 d2 e2.2
    refine m_laysB hM hA hb hs.1.1 (fun w5 l5 g5 f5 => ?_)
    refine m_aside hM (hs.L f5) hA hb l5 d1 d2 e2.2 (fun w7 s7 l7 f7 gg el sl => ?_)
    have fX : z_frX w w7 := f5.M.X.trans f7
    rw [el]
    refine ⟨sl, fun c4 => ⟨fun c5 => ?_, fun c5 => ⟨fun c6 => ⟨sl, ⟨by omega, by omega⟩, ?_⟩, fun c6 => ?_⟩⟩, fun c4 => ?_⟩
    · rw [if_pos c4, if_neg (by omega), if_neg (by omega)] at k
      rw [gg.1, gg.2.1]
      refine m_laysWay hM hA hb l7 (z_bg_bl d2 d1) (z_bg_bl d1 d2) (fun w11 f11 h11 => ?_)
      have rc := z_cn_R hA hb (z_bg_bl (kd := kd) d2 d1) (z_bg_bl (kd := kd) d1 d2)
      have rc0 : z_cn A (z_bg kd oth one) (z_bg kd one oth) ≠ 0 := fun q => z_bg_ne d3 ((z_cn_0 hA hb (z_bg_bl d2 d1) (z_bg_bl d1 d2)).mp q)
      rw [h11 0 (by omega) (by omega)]
      exact ⟨_, _, rfl, rfl, k w11 (s7.way f11) (fX.trans (z_frX.way f11))⟩
    · rw [if_pos c4, if_neg (by omega), if_pos c6] at k
      exact ⟨_, _, rfl, rfl, k w7 s7 fX⟩
    · rw [if_pos c4, if_pos (show dp = 0 by omega)] at k
      refine m_shortRing hM hA l7 e2.2 gg ⟨_, _, rfl, rfl, ?_⟩
      have ev : (if (if z_os A one oth kd n = -2 then (0 : Int) else 1) = 0 then (2 : Int) else 1) = if z_os A one oth kd n = -2 then 2 else 1 := by
        by_cases q : z_os A one oth kd n = -2
        · rw [if_pos q, if_pos q, if_pos rfl]
        · rw [if_neg q, if_neg q, if_neg (by omega)]
      rw [ev]
      exact k w7 s7 fX
    · rw [if_neg c4] at k
      exact ⟨_, _, rfl, rfl, k w7 s7 fX⟩
theorem m_ring {sh : List z_C} {w : z_Mm} {A : z_A} {H : List z_A} {one oth kd n i : Int} {K : Int → z_Mm → Prop} (hM : z_isMod sh 161) (hs : z_ms w A H) (hA : z_okg A) (hb : z_bears A)
    (k : ∀ w', z_ms w' A H → z_frX w w' → K (z_qri A one oth kd n i) w') : z_CI mX9_ring [z_r 161, z_i one, z_i oth, z_i kd, z_i n, z_i i] sh w K := by
  have r1 := hA.2.1
  have p1 : w 163 1 = A 1 0 := hs.1.1.2.1
  have h1 := z_fmT (w := w) (a := one) (b := oth)
  rw [p1] at h1
  have h2 := z_fmN (w := w) (a := kd) (b := n)
  unfold z_qri at k
  refine z_CIi (t_X9_ring hM ⟨⟨z_sem (by omega), fun _ => ⟨z_sem (by omega), True.intro⟩, True.intro⟩, fun c => ?_, fun c => ⟨fun c2 => ?_, fun c2 => ⟨fun c3 => ?_, fun c3 => ?_⟩⟩⟩)
  · rw [if_neg (fun q => (h1.mp c) ⟨q.1, q.2.1, q.2.2.1⟩)] at k
    exact ⟨_, _, rfl, rfl, k w hs z_frX.rf⟩
  · rw [if_neg (fun q => (h2.mp c2) q.2.2.2)] at k
    exact ⟨_, _, rfl, rfl, k w hs z_frX.rf⟩
  · have e1 : (0 ≤ one ∧ one < A 1 0) ∧ (0 ≤ oth ∧ oth < A 1 0) ∧ one ≠ oth := Classical.byContradiction fun q => c (h1.mpr q)
    have e2 : (0 ≤ kd ∧ kd ≤ 1) ∧ (0 ≤ n ∧ n ≤ 999) := Classical.byContradiction fun q => c2 (h2.mpr q)
    obtain ⟨d1, d2, d3⟩ := e1
    rw [if_pos ⟨d1, d2, d3, e2⟩, if_pos c3] at k
    refine m_laysB hM hA hb hs.1.1 (fun w5 l5 g5 f5 => ?_)
    refine m_aside hM (hs.L f5) hA hb l5 d1 d2 e2.2 (fun w7 s7 l7 f7 gg el sl => ?_)
    have fX : z_frX w w7 := f5.M.X.trans f7
    rw [el]
    refine ⟨sl, fun c4 => ?_, fun c4 => ?_⟩
    · rw [if_neg (by omega)] at k
      exact ⟨_, _, rfl, rfl, k w7 s7 fX⟩
    · rw [if_pos (by omega)] at k
      rw [gg.1, gg.2.1]
      have rc := z_cn_R hA hb (z_bg_bl (kd := kd) d2 d1) (z_bg_bl (kd := kd) d1 d2)
      refine m_laysWay hM hA hb l7 (z_bg_bl d2 d1) (z_bg_bl d1 d2) (fun w10 f10 h10 => ⟨fun q => ⟨⟨by omega, by omega⟩, True.intro⟩, ?_⟩)
      have ev : (if z_cn A (z_bg kd oth one) (z_bg kd one oth) ≤ i then -2 else w10 174 i) = z_wy A (z_bg kd oth one) (z_bg kd one oth) i := by
        by_cases c5 : z_cn A (z_bg kd oth one) (z_bg kd one oth) ≤ i
        · unfold z_wy
          rw [if_pos c5, if_neg (by omega)]
        · rw [if_neg c5]
          exact h10 i c3 (by omega)
      rw [ev]
      exact ⟨_, _, rfl, rfl, k w10 (s7.way f10) (fX.trans (z_frX.way f10))⟩
  · split at k <;> exact ⟨_, _, rfl, rfl, k w hs z_frX.rf⟩
