/-! IFDROPPED, IFTOLD, IFTURNED, IFPINNED: the reference -/
theorem z_nowb.fr {w w' : z_Mm} {n : Int} {d : Int → Int → Int} (h : z_nowb w n d) (e : w' 175 = w 175) : z_nowb w' n d := fun a b ha hb => by rw [e]; exact h a b ha hb
theorem m_ifDropped {sh : List z_C} {w : z_Mm} {A : z_A} {H : List z_A} {g p : Int} {K : Int → z_Mm → Prop} (hM : z_isMod sh 161) (hs : z_ms w A H) (hA : z_okg A) (hb : z_bears A)
    (k : ∀ w', z_ms w' A H → z_frX w w' → K (z_qid A g p) w') : z_CI mX9_ifDropped [z_r 161, z_i g, z_i p] sh w K := by
  have r2 := hA.2.2.1
  have p2 : w 163 2 = A 2 0 := hs.1.1.2.2.1
  have h2 := z_fin (w := w) (x := p) (a := 0) (b := 2)
  unfold z_qid at k
  refine z_CIi (t_X9_ifDropped hM ⟨z_sgm (by omega), fun c => ?_, fun c => ⟨fun c2 => ?_, fun c2 => ?_⟩⟩)
  · rw [z_fgm, p2] at c
    rw [if_neg c] at k
    exact ⟨_, _, rfl, rfl, k w hs z_frX.rf⟩
  · rw [if_neg (c := 0 ≤ p ∧ p ≤ 2) (h2.mp c2)] at k
    split at k <;> exact ⟨_, _, rfl, rfl, k w hs z_frX.rf⟩
  · have hg : 0 ≤ g ∧ g < A 2 0 := by
      rw [z_fgm, p2] at c
      omega
    rw [if_pos hg, if_pos (Classical.byContradiction fun q => c2 (h2.mpr q))] at k
    refine m_keeps hM hs hA hb (fun w4 s4 l4 n4 f4 => ?_)
    refine m_beg hM s4 hA (fun w5 s5 h5 f5 e5 => ?_)
    refine m_drops hM hA hg.1 hg.2 s5.1 (fun w6 h6 f6 => ?_)
    exact m_tells hM hA hb (z_okg_cut hA hg.1 hg.2) h6 (by rw [f6 164 (by omega)]; exact h5) (s5.2.fr (by rw [f6 161 (by omega)]) (f6 165 (by omega))) (n4.fr (by rw [f6 175 (by omega), f5.1 175 (by omega) (by omega) (by omega) (by omega) (by omega)])) (z_cut_lt (by omega)) (f4.trans (f5.X.trans (z_frM.c (b := 163) (by omega) f6))) (fun w' a b => ⟨_, _, rfl, rfl, k w' a b⟩)
theorem m_ifTurned {sh : List z_C} {w : z_Mm} {A : z_A} {H : List z_A} {g p : Int} {K : Int → z_Mm → Prop} (hM : z_isMod sh 161) (hs : z_ms w A H) (hA : z_okg A) (hb : z_bears A)
    (k : ∀ w', z_ms w' A H → z_frX w w' → K (z_qitu A g p) w') : z_CI mX9_ifTurned [z_r 161, z_i g, z_i p] sh w K := by
  have r2 := hA.2.2.1
  have p2 : w 163 2 = A 2 0 := hs.1.1.2.2.1
  have h2 := z_fin (w := w) (x := p) (a := 0) (b := 2)
  unfold z_qitu at k
  refine z_CIi (t_X9_ifTurned hM ⟨z_sgm (by omega), fun c => ?_, fun c => ⟨fun c2 => ?_, fun c2 => ?_⟩⟩)
  · rw [z_fgm, p2] at c
    rw [if_neg c] at k
    exact ⟨_, _, rfl, rfl, k w hs z_frX.rf⟩
  · rw [if_neg (c := 0 ≤ p ∧ p ≤ 2) (h2.mp c2)] at k
    split at k <;> exact ⟨_, _, rfl, rfl, k w hs z_frX.rf⟩
  · have hg : 0 ≤ g ∧ g < A 2 0 := by
      rw [z_fgm, p2] at c
      omega
    rw [if_pos hg, if_pos (Classical.byContradiction fun q => c2 (h2.mpr q))] at k
    refine m_keeps hM hs hA hb (fun w4 s4 l4 n4 f4 => ?_)
    refine m_beg hM s4 hA (fun w5 s5 h5 f5 e5 => ?_)
    have e7 : f_X9_of w5 g 4 = A 7 g := (s5.1.1.2.2.2.1 g hg.1 hg.2).2.2.2.2
    have r7 := (hA.2.2.2.1 g hg.1 hg.2).2.2.2.2
    rw [e7]
    refine ⟨⟨⟨by omega, by omega⟩, ⟨by omega, by omega⟩, ⟨by omega, by omega⟩, ⟨by omega, by omega⟩, True.intro⟩, ⟨by omega, by omega⟩, ?_⟩
    refine m_puts hM ⟨hg.1, by omega⟩ (by omega) ?_
    have hB : z_okg (z_up A 7 g (1 - A 7 g)) := z_only_on.okg hA (by rw [z_up_ne (Or.inl (by decide))]; exact r7.1) (by rw [z_up_same]; omega)
    have f6 : ∀ c : Nat, c ≠ 163 → z_W w5 163 (13 + 5 * g + 4) (1 - A 7 g) c = w5 c := fun c hc => z_Wf hc
    exact m_tells hM hA hb hB (z_mr_on s5.1 hA hg.1 (by omega)) (by rw [f6 164 (by omega)]; exact h5) (s5.2.fr (by rw [f6 161 (by omega)]) (f6 165 (by omega))) (n4.fr (by rw [f6 175 (by omega), f5.1 175 (by omega) (by omega) (by omega) (by omega) (by omega)])) (z_up_ne (Or.inl (by decide))) (f4.trans (f5.X.trans (z_frM.c (b := 163) (by omega) f6))) (fun w' a b => ⟨_, _, rfl, rfl, k w' a b⟩)
theorem m_ifPinned {sh : List z_C} {w : z_Mm} {A : z_A} {H : List z_A} {e t p : Int} {K : Int → z_Mm → Prop} (hM : z_isMod sh 161) (hs : z_ms w A H) (hA : z_okg A) (hb : z_bears A)
    (k : ∀ w', z_ms w' A H → z_frX w w' → K (z_qip A e t p) w') : z_CI mX9_ifPinned [z_r 161, z_i e, z_i t, z_i p] sh w K := by
  have r0 := hA.1
  have r1 := hA.2.1
  have p0 : w 163 0 = A 0 0 := hs.1.1.1
  have p1 : w 163 1 = A 1 0 := hs.1.1.2.1
  have h2 := z_fin (w := w) (x := p) (a := 0) (b := 2)
  unfold z_qip at k
  refine z_CIi (t_X9_ifPinned hM ⟨z_sem (by omega), fun c => ?_, fun c => ⟨fun c2 => ?_, fun c2 => ⟨fun c2' => ?_, fun c2' => ?_⟩⟩⟩)
  · rw [z_fem, p1] at c
    rw [if_neg (fun q => c q.1)] at k
    exact ⟨_, _, rfl, rfl, k w hs z_frX.rf⟩
  · rw [z_fin, p0] at c2
    rw [if_neg (fun q => c2 q.2.1)] at k
    exact ⟨_, _, rfl, rfl, k w hs z_frX.rf⟩
  · rw [if_neg (fun q => (h2.mp c2') q.2.2)] at k
    exact ⟨_, _, rfl, rfl, k w hs z_frX.rf⟩
  have he : 0 ≤ e ∧ e < A 1 0 := by
    rw [z_fem, p1] at c
    omega
  have ht : 0 ≤ t ∧ t ≤ A 0 0 := by
    rw [z_fin, p0] at c2
    omega
  rw [if_pos ⟨he, ht, Classical.byContradiction fun q => c2' (h2.mpr q)⟩] at k
  refine ⟨fun c3 => ?_, fun c3 => ⟨⟨⟨by omega, by omega⟩, ⟨by omega, by omega⟩, True.intro⟩, fun c4 => ?_, fun c4 => ?_⟩⟩
  · rw [if_pos (Or.inl c3)] at k
    exact ⟨_, _, rfl, rfl, k w hs z_frX.rf⟩
  · rw [z_fmip hA hs.1.1 he.1 he.2] at c4
    have hu : A 8 e = -1 := Classical.byContradiction fun q => by rw [if_neg q] at c4; omega
    rw [if_neg (by rintro (q | q); exact c3 q; exact q hu)] at k
    refine m_keeps hM hs hA hb (fun w4 s4 l4 n4 f4 => ?_)
    refine m_beg hM s4 hA (fun w5 s5 h5 f5 e5 => ⟨⟨by omega, by omega⟩, ⟨by omega, by omega⟩, ⟨by omega, by omega⟩, fun w12 e12 => ?_⟩)
    have f6 : ∀ c : Nat, c ≠ 163 → w12 c = w5 c := fun c hc => by rw [e12, z_Wf hc]
    exact m_tells hM hA hb (z_okg_pin hA c3 (by omega)) (by rw [e12]; exact z_mr_pin s5.1 hA he.1 (by omega)) (by rw [f6 164 (by omega)]; exact h5) (s5.2.fr (by rw [f6 161 (by omega)]) (f6 165 (by omega))) (n4.fr (by rw [f6 175 (by omega), f5.1 175 (by omega) (by omega) (by omega) (by omega) (by omega)])) z_pu1 (f4.trans (f5.X.trans (z_frM.c (b := 163) (by omega) f6))) (fun w' a b => ⟨_, _, rfl, rfl, k w' a b⟩)
  · rw [z_fmip hA hs.1.1 he.1 he.2] at c4
    have hu : A 8 e ≠ -1 := fun q => by rw [if_pos q] at c4; omega
    rw [if_pos (Or.inr hu)] at k
    exact ⟨_, _, rfl, rfl, k w hs z_frX.rf⟩
theorem m_aside0 {sh : List z_C} {w : z_Mm} {one oth kd n : Int} {K : z_Mm → Prop} (hM : z_isMod sh 161) (hn : 0 ≤ n ∧ n ≤ 999)
    (k : ∀ w', (∀ c : Nat, c ≠ 161 → w' c = w c) → (∀ j : Int, j ≠ 23 → j ≠ 24 → j ≠ 25 → w' 161 j = w 161 j) → w' 161 23 = z_bg kd one oth → w' 161 24 = z_bg kd oth one → w' 161 25 = (if kd = 0 then n else -n) → K w') : z_CV mX9_laysAside [z_r 161, z_i one, z_i oth, z_i kd, z_i n] sh w K := by
  refine z_CVi (t_X9_laysAside hM (fun w5 e5 w10 e10 => ⟨fun _ => ⟨⟨by omega, by omega⟩, True.intro⟩, fun w17 e17 => ⟨w17, rfl, rfl, k w17 ?_ ?_ ?_ ?_ ?_⟩⟩))
  · exact fun c hc => by rw [e17, z_Wf hc, e10, z_Wf hc, e5, z_Wf hc]
  · exact fun j j1 j2 j3 => by rw [e17, z_W_ne (Or.inr j3), e10, z_W_ne (Or.inr j2), e5, z_W_ne (Or.inr j1)]
  · rw [e17, z_W_ne (Or.inr (by decide)), e10, z_W_ne (Or.inr (by decide)), e5, z_W_same]; rfl
  · rw [e17, z_W_ne (Or.inr (by decide)), e10, z_W_same]; rfl
  · rw [e17, z_W_same]
theorem m_ifTold {sh : List z_C} {w : z_Mm} {A : z_A} {H : List z_A} {one oth kd n p : Int} {K : Int → z_Mm → Prop} (hM : z_isMod sh 161) (hs : z_ms w A H) (hA : z_okg A) (hb : z_bears A)
    (k : ∀ w', z_ms w' A H → z_frX w w' → K (z_qit A one oth kd n p) w') : z_CI mX9_ifTold [z_r 161, z_i one, z_i oth, z_i kd, z_i n, z_i p] sh w K := by
  have r1 := hA.2.1
  have p1 : w 163 1 = A 1 0 := hs.1.1.2.1
  have h1 := z_fmT (w := w) (a := one) (b := oth)
  rw [p1] at h1
  have h2 := z_fmN (w := w) (a := kd) (b := n)
  have h3 := z_fin (w := w) (x := p) (a := 0) (b := 2)
  unfold z_qit at k
  refine z_CIi (t_X9_ifTold hM ⟨⟨z_sem (by omega), fun _ => ⟨z_sem (by omega), True.intro⟩, True.intro⟩, fun c => ?_, fun c => ⟨fun c2 => ?_, fun c2 => ⟨fun c3 => ?_, fun c3 => ?_⟩⟩⟩)
  · rw [if_neg (fun q => (h1.mp c) ⟨q.1, q.2.1, q.2.2.1⟩)] at k
    exact ⟨_, _, rfl, rfl, k w hs z_frX.rf⟩
  · rw [if_neg (fun q => (h2.mp c2) q.2.2.2)] at k
    exact ⟨_, _, rfl, rfl, k w hs z_frX.rf⟩
  · rw [if_neg (c := 0 ≤ p ∧ p ≤ 2) (h3.mp c3)] at k
    split at k <;> exact ⟨_, _, rfl, rfl, k w hs z_frX.rf⟩
  have e1 : (0 ≤ one ∧ one < A 1 0) ∧ (0 ≤ oth ∧ oth < A 1 0) ∧ one ≠ oth := Classical.byContradiction fun q => c (h1.mpr q)
  have e2 : (0 ≤ kd ∧ kd ≤ 1) ∧ (0 ≤ n ∧ n ≤ 999) := Classical.byContradiction fun q => c2 (h2.mpr q)
  obtain ⟨d1, d2, d3⟩ := e1
  rw [if_pos ⟨d1, d2, d3, e2⟩, if_pos (Classical.byContradiction fun q => c3 (h3.mpr q))] at k
  have b1 := z_bg_bl (kd := kd) d1 d2
  have b2 := z_bg_bl (kd := kd) d2 d1
  refine m_keeps hM hs hA hb (fun w5 s5 l5 n5 f5 => ?_)
  refine m_aside0 hM e2.2 (fun w6 g6 j6 g23 g24 g25 => ?_)
  have l6 : z_ld w6 A := l5.fr (j6 13 (by omega) (by omega) (by omega)) (fun c c0 c1 => g6 c (by omega))
  have s6 : z_ms w6 A H := ⟨by rw [g6 163 (by omega)]; exact s5.1, s5.2.fr (j6 8 (by omega) (by omega) (by omega)) (g6 165 (by omega))⟩
  have f6 : z_frX w w6 := f5.trans ⟨fun a ha => g6 a (by omega), j6 1 (by omega) (by omega) (by omega), j6 2 (by omega) (by omega) (by omega)⟩
  have n6 := n5.fr (g6 175 (by omega))
  obtain ⟨m1, m2⟩ := z_mbt hA hb l6 b2 b1
  have rl := z_lr_R (lo := -1) (kd := kd) hA hb d1 d2 e2.2
  have ez : w6 161 25 + f_X9_boundOf w6 (w6 161 24) (w6 161 23) = z_lr A (-1) one oth kd n := by
    rw [g23, g24, g25, m1]
    rfl
  have el : f_X9_leastRing w6 = z_lr A (-1) one oth kd n := ez
  rw [el]
  refine ⟨?_, fun c4 => ?_, fun c4 => ?_⟩
  · unfold s_X9_leastRing
    rw [ez, g23, g24]
    exact ⟨m2, ⟨by omega, by omega⟩, True.intro⟩
  · rw [if_pos c4] at k
    intro y9 e9
    have ey : y9 = A 1 0 := by rw [e9]; exact s6.1.1.2.1
    subst ey
    have hS1 := z_S1p_sv hA hb d1 d2 c4
    have hda := z_Dadd (c := 0) (z_isd hA hb (-1)) (z_sv_A hA hb (-1)).2.1 b1 b2 (l := if kd = 0 then n else -n) c4
    have hlR : (-999 : Int) ≤ (if kd = 0 then n else -n) ∧ (if kd = 0 then n else -n) ≤ 999 := by split <;> omega
    refine z_for (n := A 1 0) (i0 := 0) (fun i v => z_Sem mX9_ifTold (sh.length, 0) 64 [(0, z_r 161), (5, z_i p), (6, z_i (A 1 0)), (7, z_i i)] [] (sh, v) _)
      (fun i v => (∀ c : Nat, c ≠ 172 → v c = w6 c) ∧ ∀ a b, z_bl (A 1 0) a → z_bl (A 1 0) b → a < i → v 172 (10 * a + b) = min (z_dd A (-1) a b) (z_dd A (-1) a (z_bg kd one oth) + (if kd = 0 then n else -n) + z_dd A (-1) (z_bg kd oth one) b)) (by omega) ⟨fun _ _ => rfl, fun a b ha _ h => absurd h (by have := ha.1; omega)⟩ ?_ ?_
    · rintro v ⟨vf, vm⟩
      have hbw : z_bw v (A 1 0) (z_Dd (z_S1p A one oth kd n) (A 1 0)) := fun a b ha hb' => ⟨by
        rw [vm a b ha hb' ha.2]
        exact z_IsD_uniq hda (z_sv_D hS1) ha hb', z_D_R hS1 ha hb'⟩
      have v1 : v 163 1 = A 1 0 := by rw [vf 163 (by omega)]; exact s6.1.1.2.1
      have nv := n6.fr (vf 175 (by omega))
      have sv : z_ms v A H := ⟨by rw [vf 163 (by omega)]; exact s6.1, s6.2.fr (by rw [vf 161 (by omega)]) (vf 165 (by omega))⟩
      have fv : z_frX w v := f6.trans ⟨fun a ha => vf a (by omega), by rw [vf 161 (by omega)], by rw [vf 161 (by omega)]⟩
      have hz : ∀ a, z_bl (A 1 0) a → z_dd A (-1) a a = z_Dd (z_S1p A one oth kd n) (A 1 0) a a := fun a ha => by rw [z_D0 (z_isd hA hb (-1)) ha, z_D0 (z_sv_D hS1) ha]
      refine t_X9_ifTold_64 hM ⟨fun _ => ⟨fun q1 => ?_, fun q1 => ⟨fun q2 => ?_, fun q2 => ?_⟩⟩, fun q => absurd (Int.le_refl _) q⟩
      · rw [q1] at k
        exact m_oB hM r1 v1 nv hbw hz ⟨_, _, rfl, rfl, k v sv fv⟩
      · rw [q2] at k
        exact m_oT hM r1 v1 nv hbw (hz 0 ⟨by omega, by omega⟩) ⟨_, _, rfl, rfl, k v sv fv⟩
      · exact m_oR hM r1 v1 hbw ⟨q1, q2⟩ ⟨_, _, rfl, rfl, k v sv fv⟩
    · rintro i v i0 i1 ⟨vf, vm⟩ kk
      refine t_X9_ifTold_64 hM ⟨fun q => absurd q (by omega), fun _ => ?_⟩
      refine z_for (n := A 1 0) (i0 := 0) (fun j u => z_Sem mX9_ifTold (sh.length, 0) 74 [(0, z_r 161), (5, z_i p), (6, z_i (A 1 0)), (7, z_i i), (8, z_i j)] [] (sh, u) _)
        (fun j u => (∀ c : Nat, c ≠ 172 → u c = w6 c) ∧ ∀ a b, z_bl (A 1 0) a → z_bl (A 1 0) b → (a < i ∨ (a = i ∧ b < j)) → u 172 (10 * a + b) = min (z_dd A (-1) a b) (z_dd A (-1) a (z_bg kd one oth) + (if kd = 0 then n else -n) + z_dd A (-1) (z_bg kd oth one) b)) (by omega) ⟨vf, fun a b ha hb' h => vm a b ha hb' (by have := hb'.1; omega)⟩ ?_ ?_
      · rintro u ⟨uf, um⟩
        exact t_X9_ifTold_74 hM ⟨fun _ => ⟨⟨by omega, by omega⟩, kk u ⟨uf, fun a b ha hb' h => um a b ha hb' (by have := hb'.2; omega)⟩⟩, fun q => absurd (Int.le_refl _) q⟩
      · rintro j u j0 j1 ⟨uf, um⟩ k2
        have hi : z_bl (A 1 0) i := ⟨i0, i1⟩
        have hj : z_bl (A 1 0) j := ⟨j0, j1⟩
        have nu := n6.fr (uf 175 (by omega))
        have u23 : u 161 23 = z_bg kd one oth := by rw [uf 161 (by omega)]; exact g23
        have u24 : u 161 24 = z_bg kd oth one := by rw [uf 161 (by omega)]; exact g24
        have u25 : u 161 25 = if kd = 0 then n else -n := by rw [uf 161 (by omega)]; exact g25
        have x1 := nu i _ hi b1
        have x2 := nu _ j b2 hj
        have x3 := nu i j hi hj
        have y1 := z_dd_R (lo := -1) hA hb hi b1
        have y2 := z_dd_R (lo := -1) hA hb b2 hj
        have y3 := z_dd_R (lo := -1) hA hb hi hj
        obtain ⟨p0, p1'⟩ := b1
        obtain ⟨q0, q1⟩ := b2
        have pr : ∀ a b : Int, 0 ≤ a → a < 10 → 0 ≤ b → b < 10 → s_X9_pair u a b := fun a b a0 a1 b0 b1 => ⟨⟨by omega, by omega⟩, ⟨by omega, by omega⟩, True.intro⟩
        refine t_X9_ifTold_74 hM ⟨fun q => absurd q (by omega), fun _ => ?_⟩
        rw [u23, u24, u25, show f_X9_pair u i (z_bg kd one oth) = 10 * i + z_bg kd one oth from rfl, show f_X9_pair u (z_bg kd oth one) j = 10 * z_bg kd oth one + j from rfl, show f_X9_pair u i j = 10 * i + j from rfl, x1, x2, x3]
        refine ⟨pr _ _ i0 (by omega) p0 (by omega), ⟨by omega, by omega⟩, ⟨by omega, by omega⟩, pr _ _ q0 (by omega) j0 (by omega), ⟨by omega, by omega⟩, ⟨by omega, by omega⟩, fun y9 e9' => ⟨pr _ _ i0 (by omega) j0 (by omega), pr _ _ i0 (by omega) j0 (by omega), ⟨by omega, by omega⟩, fun _ => ⟨pr _ _ i0 (by omega) j0 (by omega), ⟨by omega, by omega⟩, True.intro⟩, ⟨by omega, by omega⟩, fun w20 e20 => ⟨⟨by omega, by omega⟩, k2 w20 ⟨fun c hc => by rw [e20, z_Wf hc, uf c hc], fun a b ha hb' h => ?_⟩⟩⟩⟩
        rw [e20]
        by_cases e : a = i ∧ b = j
        · obtain ⟨rfl, rfl⟩ := e
          rw [z_W_same, e9']
          split <;> omega
        · have := ha.1
          have := hb'.1
          have := ha.2
          have := hb'.2
          rw [z_W_ne (Or.inr (by omega))]
          exact um a b ha hb' (by omega)
  · rw [if_neg c4] at k
    exact ⟨_, _, rfl, rfl, k w6 s6 f6⟩
