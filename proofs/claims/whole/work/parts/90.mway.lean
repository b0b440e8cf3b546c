/-! the reference lays a way -/
theorem m_firstStep {sh : List z_C} {w : z_Mm} {A : z_A} {b M m e : Int} {K : Int → z_Mm → Prop} (hM : z_isMod sh 161) (hA : z_okg A) (hb : z_bears A) (hl : z_ld w A) (hb' : z_bl (A 1 0) b) (h : z_rws (z_Sx A (-1)) (w 173) b M) (m0 : 0 ≤ m) (m1 : m ≤ M) (m9 : m ≤ 9) (he : z_bl (A 1 0) e) (hc : z_cn A e b = m + 1)
    (k : K (z_nxi A b e) w) : z_CI mX9_firstStep [z_r 161, z_i e, z_i (z_dd A (-1) e b), z_i m] sh w K := by
  have hlen := z_Sx_len hA (-1)
  have hne : e ≠ b := fun c => by
    have := (z_cn_0 hA hb he hb').mpr c
    omega
  obtain ⟨⟨x0, x1, x2, x3⟩, -⟩ := z_nx_ok hA hb he hb' hne
  have hR := z_rws_R (z_wf10 hA) (fun q hq => z_Sx_R hA hq) h m.toNat (by omega)
  rw [show ((m.toNat : Nat) : Int) = m by omega] at hR
  have body : ∀ i : Int, 0 ≤ i → i < ((z_Sx A (-1)).length : Int) → ∀ Q : Option z_V → z_S → Prop, (z_pst A b e i → Q (some (z_i i)) (sh, w)) → (¬ z_pst A b e i → z_Sem mX9_firstStep (sh.length, 0) 3 [(0, z_r 161), (1, z_i e), (2, z_i (z_dd A (-1) e b)), (3, z_i m), (4, z_i (i + 1))] [] (sh, w) Q) → z_Sem mX9_firstStep (sh.length, 0) 3 [(0, z_r 161), (1, z_i e), (2, z_i (z_dd A (-1) e b)), (3, z_i m), (4, z_i i)] [] (sh, w) Q := by
    intro i i0 i1 Q q1 q2
    have hk : (z_Sx A (-1))[i.toNat]? = some ((z_Sx A (-1))[i.toNat]'(by omega)) := List.getElem?_eq_getElem (by omega)
    generalize (z_Sx A (-1))[i.toNat]'(by omega) = q at hk
    have hq := List.mem_of_getElem? hk
    obtain ⟨⟨w10, w11⟩, ⟨w20, w21⟩⟩ := z_wf10 hA q hq
    have rq := z_Sx_R hA hq
    obtain ⟨m1', m2', m3', -⟩ := hl.2.1 _ q hk
    rw [show ((i.toNat : Nat) : Int) = i by omega] at m1' m2' m3'
    have e1 : w 168 i = q.1 := m1'
    have e2 : w 169 i = q.2.1 := m2'
    have e3 : w 170 i = q.2.2.1 := m3'
    have hr := hR q.2.1 w20 w21
    refine t_X9_firstStep_3 hM ?_
    rw [e1, e2, e3]
    refine ⟨⟨by omega, by omega⟩, fun d1 => ⟨⟨by omega, by omega⟩, ⟨by omega, by omega⟩, ⟨by omega, by omega⟩, ⟨by omega, by omega⟩, ⟨by omega, by omega⟩, ⟨by omega, by omega⟩, fun d2 => ?_, fun d2 => ⟨⟨by omega, by omega⟩, q2 ?_⟩⟩, fun d1 => ⟨⟨by omega, by omega⟩, q2 ?_⟩⟩
    · exact q1 ⟨q, hk, d1, (z_rws_iff hA hb hb' h m0 m1 he hc hq d1).mp d2⟩
    · rintro ⟨q', hq', -, f2⟩
      rw [hk] at hq'
      cases hq'
      exact d2 ((z_rws_iff hA hb hb' h m0 m1 he hc hq d1).mpr f2)
    · rintro ⟨q', hq', f1, -⟩
      rw [hk] at hq'
      cases hq'
      exact d1 f1
  refine z_CIi (t_X9_firstStep hM ?_)
  refine z_for (n := z_nxi A b e) (i0 := 0) (fun i v => z_Sem mX9_firstStep (sh.length, 0) 3 [(0, z_r 161), (1, z_i e), (2, z_i (z_dd A (-1) e b)), (3, z_i m), (4, z_i i)] [] (sh, v) _) (fun i v => v = w) (by omega) rfl ?_ ?_
  · rintro v rfl
    exact body _ x0 x1 _ (fun _ => ⟨_, _, rfl, rfl, k⟩) (fun c => absurd x2 c)
  · rintro i v i0 i1 rfl kk
    exact body i i0 (by omega) _ (fun c => absurd c (x3 i i0 i1)) (fun _ => kk v rfl)
theorem z_ld.fr {w w' : z_Mm} {A : z_A} (h : z_ld w A) (h13 : w' 161 13 = w 161 13) (hf : ∀ c : Nat, 168 ≤ c → c ≤ 172 → w' c = w c) : z_ld w' A := by
  obtain ⟨h1, h2, h3⟩ := h
  refine ⟨by rw [h13]; exact h1, h2.fr (fun a a0 a1 => hf a (by omega) (by omega)), ?_⟩
  unfold z_mx
  rw [hf 172 (by omega) (by omega)]
  exact h3
theorem m_laysWay {sh : List z_C} {w : z_Mm} {A : z_A} {a b : Int} {K : Int → z_Mm → Prop} (hM : z_isMod sh 161) (hA : z_okg A) (hb : z_bears A) (hl : z_ld w A) (ha : z_bl (A 1 0) a) (hb' : z_bl (A 1 0) b)
    (k : ∀ w', (∀ c : Nat, c ≠ 173 → c ≠ 174 → w' c = w c) → (∀ i : Int, 0 ≤ i → i < z_cn A a b → w' 174 i = z_wy A a b i) → K (z_cn A a b) w') : z_CI mX9_laysWay [z_r 161, z_i a, z_i b] sh w K := by
  have r1 := hA.2.1
  have hlen := z_Sx_len hA (-1)
  have ha10 := z_bl10 hA ha
  have hb10 := z_bl10 hA hb'
  have rc := z_cn_R hA hb ha hb'
  have rd := z_dd_R (lo := -1) hA hb ha hb'
  refine z_CIi (t_X9_laysWay hM ?_)
  refine z_for (n := 10) (i0 := 0) (fun i v => z_Sem mX9_laysWay (sh.length, 0) 2 [(0, z_r 161), (1, z_i a), (2, z_i b), (3, z_i i)] [] (sh, v) _)
    (fun i v => (∀ c : Nat, c ≠ 173 → v c = w c) ∧ ∀ e : Int, 0 ≤ e → e < i → v 173 e = if e = b then 0 else 1000000) (by omega) ⟨fun _ _ => rfl, fun e e0 e1 => absurd e1 (by omega)⟩ ?_ ?_
  · rintro v ⟨vf, vg⟩
    refine t_X9_laysWay_2 hM ⟨fun _ => ?_, fun c => absurd (Int.le_refl _) c⟩
    refine z_for (n := z_cn A a b) (i0 := 0) (fun m u => z_Sem mX9_laysWay (sh.length, 0) 33 [(0, z_r 161), (1, z_i a), (2, z_i b), (3, z_i m)] [] (sh, u) _)
      (fun m u => (∀ c : Nat, c ≠ 173 → u c = w c) ∧ z_rws (z_Sx A (-1)) (u 173) b m) (by omega) ⟨vf, vg, fun m m0 m1 => absurd m1 (by omega)⟩ ?_ ?_
    · rintro u ⟨uf, ug⟩
      have lu : z_ld u A := hl.fr (by rw [uf 161 (by omega)]) (fun c c0 c1 => uf c (by omega))
      obtain ⟨e1, s1⟩ := z_mbt hA hb lu ha hb'
      have hit := z_rws_hi hA hb hb' ug (z_cn A a b).toNat (by omega) a ha (by omega)
      rw [show (((z_cn A a b).toNat : Nat) : Int) = z_cn A a b by omega] at hit
      refine t_X9_laysWay_33 hM ?_
      rw [e1]
      refine ⟨⟨by omega, by omega⟩, ⟨by omega, by omega⟩, ⟨by omega, by omega⟩, s1, fun _ => ⟨s1, fun y7 e7 => ?_⟩, fun c => absurd hit c⟩
      rw [e7]
      refine z_for (n := z_cn A a b) (i0 := 0) (fun i t => z_Sem mX9_laysWay (sh.length, 0) 78 [(0, z_r 161), (3, z_i (z_cn A a b)), (4, z_i (z_nd A b a i.toNat)), (5, z_i (z_dd A (-1) (z_nd A b a i.toNat) b)), (6, z_i i)] [] (sh, t) _)
        (fun i t => (∀ c : Nat, c ≠ 174 → t c = u c) ∧ ∀ j : Int, 0 ≤ j → j < i → t 174 j = z_wy A a b j) (by omega) ⟨fun _ _ => rfl, fun j j0 j1 => absurd j1 (by omega)⟩ ?_ ?_
      · rintro t ⟨tf, tw⟩
        exact t_X9_laysWay_78 hM ⟨fun _ => ⟨_, _, rfl, rfl, k t (fun c c1 c2 => by rw [tf c c2, uf c c1]) tw⟩, fun c => absurd (Int.le_refl _) c⟩
      · rintro i t i0 i1 ⟨tf, tw⟩ kk
        obtain ⟨n1, n2⟩ := z_nd_ok hA hb ha hb' i.toNat (by omega)
        have hne : z_nd A b a i.toNat ≠ b := fun q => by
          have := (z_cn_0 hA hb n1 hb').mpr q
          omega
        obtain ⟨⟨x0, x1, -, -⟩, x2, x3, x4, x5, x6, x7⟩ := z_nx_ok hA hb n1 hb' hne
        have lt : z_ld t A := lu.fr (by rw [tf 161 (by omega)]) (fun c c0 c1 => tf c (by omega))
        refine t_X9_laysWay_78 hM ⟨fun c => absurd c (by omega), fun _ => ⟨⟨by omega, by omega⟩, ⟨by omega, by omega⟩, ?_⟩⟩
        refine m_firstStep hM hA hb lt hb' (M := z_cn A a b) (by rw [tf 173 (by omega)]; exact ug) (by omega) (by omega) (by omega) n1 (by omega) ⟨⟨by omega, by omega⟩, ⟨by omega, by omega⟩, fun w7 g7 => ?_⟩
        obtain ⟨q1, q2, q3, q4⟩ := lt.2.1 _ _ x2
        rw [show (((z_nxi A b (z_nd A b a i.toNat)).toNat : Nat) : Int) = z_nxi A b (z_nd A b a i.toNat) by omega] at q1 q2 q3 q4
        have f2 : w7 169 (z_nxi A b (z_nd A b a i.toNat)) = (z_nxt A b (z_nd A b a i.toNat)).2.1 := by rw [g7, z_Wf (by omega)]; exact q2
        have f3 : w7 170 (z_nxi A b (z_nd A b a i.toNat)) = (z_nxt A b (z_nd A b a i.toNat)).2.2.1 := by rw [g7, z_Wf (by omega)]; exact q3
        have f4 : t 171 (z_nxi A b (z_nd A b a i.toNat)) = (z_nxt A b (z_nd A b a i.toNat)).2.2.2 := q4
        have rd1 := z_dd_R (lo := -1) hA hb n1 hb'
        have rd2 := z_dd_R (lo := -1) hA hb x5 hb'
        rw [f2, f3]
        refine ⟨⟨by omega, by omega⟩, ⟨by omega, by omega⟩, ⟨by omega, by omega⟩, fun y12 e12 => ⟨⟨by omega, by omega⟩, ?_⟩⟩
        have kk' := kk w7 ⟨fun c hc => by rw [g7, z_Wf hc, tf c hc], fun j j0 j1 => ?_⟩
        · rw [z_nd_s i0] at kk'
          rw [e12, show z_dd A (-1) (z_nd A b a i.toNat) b - (z_nxt A b (z_nd A b a i.toNat)).2.2.1 = z_dd A (-1) (z_nxt A b (z_nd A b a i.toNat)).2.1 b by omega]
          exact kk'
        · rw [g7]
          by_cases e : j = i
          · subst e
            rw [z_W_same, f4]
            unfold z_wy
            rw [if_pos i1]
          · rw [z_W_ne (Or.inr e)]; exact tw j j0 (by omega)
    · rintro m u m0 m1 ⟨uf, ug⟩ kk
      have lu : z_ld u A := hl.fr (by rw [uf 161 (by omega)]) (fun c c0 c1 => uf c (by omega))
      obtain ⟨e1, s1⟩ := z_mbt hA hb lu ha hb'
      have hR := z_rws_R (z_wf10 hA) (fun q hq => z_Sx_R hA hq) ug m.toNat (by omega)
      have lo := z_rws_lo hA hb hb' ug m.toNat (by omega) a ha
      rw [show ((m.toNat : Nat) : Int) = m by omega] at hR lo
      have hno : ¬ u 173 (10 * m + a) = z_dd A (-1) a b := fun c => by
        have := lo (by omega)
        unfold z_cn at m1
        omega
      refine t_X9_laysWay_33 hM ?_
      rw [e1]
      refine ⟨⟨by omega, by omega⟩, ⟨by omega, by omega⟩, ⟨by omega, by omega⟩, s1, fun c => absurd c hno, fun _ => ⟨⟨by omega, by omega⟩, ?_⟩⟩
      refine m_laysSums hM hA lu m0 (by omega) (fun e e0 e1 => by have := hR e e0 e1; omega) (fun w9 f9 p9 g9 => kk w9 ⟨fun c hc => by rw [f9 c hc, uf c hc], ?_, ?_⟩)
      · intro e e0 e1
        rw [p9 e (by omega)]
        exact ug.1 e e0 e1
      · intro m' m0' m1'
        by_cases c : m' = m
        · subst c
          exact z_rw_cg (z_wf10 hA) g9 (fun e e0 e1 => p9 _ (by omega)) (fun e e0 e1 => rfl)
        · exact z_rw_cg (z_wf10 hA) (ug.2 m' m0' (by omega)) (fun e e0 e1 => p9 _ (by omega)) (fun e e0 e1 => p9 _ (by omega))
  · rintro i v i0 i1 ⟨vf, vg⟩ kk
    refine t_X9_laysWay_2 hM ⟨fun c => absurd c (by omega), fun _ => ⟨⟨by omega, by omega⟩, fun w6 e6 => ⟨⟨by omega, by omega⟩, kk w6 ⟨fun c hc => by rw [e6, z_Wf hc, vf c hc], fun e e0 e1 => ?_⟩⟩⟩⟩
    rw [e6]
    by_cases ce : e = i
    · subst ce; rw [z_W_same]
    · rw [z_W_ne (Or.inr ce)]; exact vg e e0 (by omega)
theorem z_frX.way {w w' : z_Mm} (h : ∀ c : Nat, c ≠ 173 → c ≠ 174 → w' c = w c) : z_frX w w' := ⟨fun a ha => h a (by omega) (by omega), by rw [h 161 (by omega) (by omega)], by rw [h 161 (by omega) (by omega)]⟩
theorem z_ms.way {w w' : z_Mm} {A : z_A} {H : List z_A} (hs : z_ms w A H) (h : ∀ c : Nat, c ≠ 173 → c ≠ 174 → w' c = w c) : z_ms w' A H := ⟨by rw [h 163 (by omega) (by omega)]; exact hs.1, hs.2.fr (by rw [h 161 (by omega) (by omega)]) (h 165 (by omega) (by omega))⟩
theorem m_way {sh : List z_C} {w : z_Mm} {A : z_A} {H : List z_A} {a b i : Int} {K : Int → z_Mm → Prop} (hM : z_isMod sh 161) (hs : z_ms w A H) (hA : z_okg A) (hb : z_bears A)
    (k : ∀ w', z_ms w' A H → z_frX w w' → K (z_qwy A a b i) w') : z_CI mX9_way [z_r 161, z_i a, z_i b, z_i i] sh w K := by
  have r1 := hA.2.1
  have p1 : w 163 1 = A 1 0 := hs.1.1.2.1
  have h1 := z_fmT (w := w) (a := a) (b := b)
  rw [p1] at h1
  unfold z_qwy at k
  refine z_CIi (t_X9_way hM ⟨⟨z_sem (by omega), fun _ => ⟨z_sem (by omega), True.intro⟩, True.intro⟩, fun c => ?_, fun c => ⟨fun c2 => ?_, fun c2 => ?_⟩⟩)
  · rw [if_neg (h1.mp c)] at k
    exact ⟨_, _, rfl, rfl, k w hs z_frX.rf⟩
  · have d : (0 ≤ a ∧ a < A 1 0) ∧ (0 ≤ b ∧ b < A 1 0) ∧ a ≠ b := Classical.byContradiction fun q => c (h1.mpr q)
    rw [if_pos d, if_pos c2] at k
    have rc := z_cn_R hA hb d.1 d.2.1
    refine m_laysB hM hA hb hs.1.1 (fun w4 l4 g4 f4 => ?_)
    refine m_laysWay hM hA hb l4 d.1 d.2.1 (fun w6 f6 h6 => ⟨fun q => ⟨⟨by omega, by omega⟩, True.intro⟩, ?_⟩)
    have k6 := k w6 ((hs.L f4).way f6) (f4.M.X.trans (z_frX.way f6))
    have ev : (if z_cn A a b ≤ i then -2 else w6 174 i) = z_wy A a b i := by
      by_cases c3 : z_cn A a b ≤ i
      · unfold z_wy
        rw [if_pos c3, if_neg (by omega)]
      · rw [if_neg c3]
        exact h6 i c2 (by omega)
    rw [ev]
    exact ⟨_, _, rfl, rfl, k6⟩
  · have d : (0 ≤ a ∧ a < A 1 0) ∧ (0 ≤ b ∧ b < A 1 0) ∧ a ≠ b := Classical.byContradiction fun q => c (h1.mpr q)
    rw [if_pos d, if_neg c2] at k
    exact ⟨_, _, rfl, rfl, k w hs z_frX.rf⟩
theorem m_wayLength {sh : List z_C} {w : z_Mm} {A : z_A} {H : List z_A} {a b : Int} {K : Int → z_Mm → Prop} (hM : z_isMod sh 161) (hs : z_ms w A H) (hA : z_okg A) (hb : z_bears A)
    (k : ∀ w', z_ms w' A H → z_frX w w' → K (z_qwl A a b) w') : z_CI mX9_wayLength [z_r 161, z_i a, z_i b] sh w K := by
  have r1 := hA.2.1
  have p1 : w 163 1 = A 1 0 := hs.1.1.2.1
  have h1 := z_fmT (w := w) (a := a) (b := b)
  rw [p1] at h1
  unfold z_qwl at k
  refine z_CIi (t_X9_wayLength hM ⟨⟨z_sem (by omega), fun _ => ⟨z_sem (by omega), True.intro⟩, True.intro⟩, fun c => ?_, fun c => ?_⟩)
  · rw [if_neg (h1.mp c)] at k
    exact ⟨_, _, rfl, rfl, k w hs z_frX.rf⟩
  · have d : (0 ≤ a ∧ a < A 1 0) ∧ (0 ≤ b ∧ b < A 1 0) ∧ a ≠ b := Classical.byContradiction fun q => c (h1.mpr q)
    rw [if_pos d] at k
    refine m_laysB hM hA hb hs.1.1 (fun w4 l4 g4 f4 => ?_)
    exact m_laysWay hM hA hb l4 d.1 d.2.1 (fun w6 f6 h6 => ⟨_, _, rfl, rfl, k w6 ((hs.L f4).way f6) (f4.M.X.trans (z_frX.way f6))⟩)
