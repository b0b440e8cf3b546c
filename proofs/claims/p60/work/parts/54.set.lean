/-! SET and TURN -/
theorem z_fgp {w : z_Mm} {g : Int} : f_X8_isGap w g = 0 ↔ ¬ (0 ≤ g ∧ g < w 1 11) := by
  unfold f_X8_isGap
  split
  · omega
  · split <;> omega
theorem z_fnum {w : z_Mm} {n : Int} : f_X8_isNumber w n = 0 ↔ ¬ (0 ≤ n ∧ n ≤ 999) := by
  unfold f_X8_isNumber
  split
  · omega
  · split <;> omega
/-- SET -/
noncomputable def z_dset (A : z_A) (H : List z_A) (g n : Int) : Int × z_A × List z_A :=
  if 0 ≤ g ∧ g < A 2 0 ∧ 0 ≤ n ∧ n ≤ 999 then (if A 6 g = n then (-2, A, H) else z_try A (z_up A 6 g n) H 3 g (A 6 g) (A 6 g)) else (-1, A, H)
theorem z_ok_num {A : z_A} {g n : Int} (hA : z_ok A) (g0 : 0 ≤ g) (g1 : g < A 2 0) (hn : 0 ≤ n ∧ n ≤ 999) (hb : z_bears (z_up A 6 g n)) : z_ok (z_up A 6 g n) := by
  have hk : z_okn A := hA.2.2
  have := z_okn_up (ch := 6) (i := g) (v := n) hk (by decide) (by decide) (by decide)
  refine ⟨z_only_num.okg hA.1 (by rw [z_up_same]; exact hn) ?_, hb, this⟩
  rw [z_up_ne (Or.inl (by decide))]
  exact (hA.1.2.2.2.1 g g0 g1).2.2.2.2.2
theorem c_set {sh : List z_C} {w : z_Mm} {A : z_A} {H : List z_A} {g n : Int} {K : Int → z_Mm → Prop} (hT : z_isTG sh 0) (hs : z_cs w A H)
    (k : ∀ w', z_cs w' (z_dset A H g n).2.1 (z_dset A H g n).2.2 → z_frC w w' → K (z_dset A H g n).1 w') : z_CI mX8_set [z_r 0, z_i g, z_i n] sh w K := by
  obtain ⟨hA, hp, hn, hok, hh⟩ := id hs
  have hsv := z_sv_A hA.1 hA.2.1 (-1)
  have p11 : w 1 11 = A 2 0 := hp.1.2.2.1
  have r2 := hA.1.2.2.1
  unfold z_dset at k
  refine z_CIi (t_X8_set hT ⟨fun c => ?_, fun c => ⟨fun c2 => ?_, fun c2 => ?_⟩⟩)
  · rw [z_fgp, p11] at c
    rw [if_neg (by omega)] at k
    exact ⟨-1, w, rfl, rfl, k w hs z_frC.rf⟩
  · rw [z_fnum] at c2
    rw [if_neg (by omega)] at k
    exact ⟨-1, w, rfl, rfl, k w hs z_frC.rf⟩
  have hg : 0 ≤ g ∧ g < A 2 0 := by
    rw [z_fgp, p11] at c
    omega
  have hn9 : 0 ≤ n ∧ n ≤ 999 := by
    rw [z_fnum] at c2
    omega
  obtain ⟨v4, v5, v6, v7, v8⟩ := hp.1.2.2.2.1 g hg.1 hg.2
  rw [if_pos ⟨hg.1, hg.2, hn9⟩] at k
  refine ⟨⟨hg.1, by omega⟩, fun y4 e4 => ?_⟩
  have ey : y4 = A 6 g := e4.trans v7
  refine ⟨fun c3 => ?_, fun c3 => ⟨⟨hg.1, by omega⟩, ?_⟩⟩
  · rw [if_pos (by omega)] at k
    exact ⟨-2, w, rfl, rfl, k w hs z_frC.rf⟩
  rw [if_neg (by omega)] at k
  have go : z_bears (z_up A 6 g n) → z_CV mX0_remember [z_r 24, z_r 1] sh w (fun w8 => (0 ≤ g ∧ g < 24) ∧ ∀ w9, w9 = z_W w8 8 g n → z_CV mX8_finish [z_r 0, z_i 3, z_i g, z_i y4] sh w9 (fun w11 => ∃ (x : Int) (w' : z_Mm), some (z_i y4) = some (z_i x) ∧ (sh, w11) = (sh, w') ∧ K x w')) := by
    intro hb
    rw [z_try_t hb] at k
    refine c_rem hT hs (fun w8 q1 q2 q3 q4 q5 => ⟨⟨hg.1, by omega⟩, fun w9 e9 => ?_⟩)
    have f9 : z_frC w8 w9 := by rw [e9]; exact z_frCW (by omega)
    rw [ey]
    refine c_finish hT (z_ok_num hA hg.1 hg.2 hn9 hb) (by rw [e9]; exact z_pr_num (P := 1) q1) (q2.fr (fun B hB => (q3 B hB).1) (fun a a0 a1 => by rw [e9, z_Wf (by omega)])) q3 (fun w' c1 c2 => ?_)
    exact ⟨_, _, rfl, rfl, k w' c1 ((q4.trans f9).trans c2)⟩
  have rr := hA.1.2.2.2.1 g hg.1 hg.2
  refine ⟨fun c4 => ?_, fun c4 => ?_⟩
  · have ho : A 7 g = 0 := by rw [← v8]; exact c4
    exact go (z_only_num.off hg.1 hg.2 hA.2.1 (by rw [z_up_ne (Or.inl (by decide))]; exact ho))
  · have ho : ¬ A 7 g = 0 := by rw [← v8]; exact c4
    have hring := (z_only_num (A := A) (g := g) (n := n)).ring hA.1 hg.1 hg.2 hA.2.1 (by rw [z_up_ne (Or.inl (by decide))]; exact ho)
    rw [z_up_same] at hring
    have hf : f_X8_ringOfGap w g n = z_lr A (-1) (A 3 g) (A 4 g) (A 5 g) n := by
      unfold f_X8_ringOfGap z_lr
      rw [show w 5 g = A 3 g from v4, show w 6 g = A 4 g from v5, show w 7 g = A 5 g from v6]
      exact z_flr hsv hn.1 rr.1 rr.2.1
    refine ⟨⟨⟨hg.1, by omega⟩, ⟨hg.1, by omega⟩, ⟨hg.1, by omega⟩, ?_, True.intro⟩, fun c5 => ?_, fun c5 => ?_⟩
    · rw [show w 5 g = A 3 g from v4, show w 6 g = A 4 g from v5, show w 7 g = A 5 g from v6]
      exact z_slr hsv hn.1 rr.1 rr.2.1 hn9
    · rw [hf] at c5
      exact go (hring.mpr c5)
    · rw [hf] at c5
      rw [z_try_f (fun hb => c5 (hring.mp hb))] at k
      exact ⟨_, _, rfl, rfl, k w hs z_frC.rf⟩
/-- TURN -/
noncomputable def z_dturn (A : z_A) (H : List z_A) (g : Int) : Int × z_A × List z_A :=
  if 0 ≤ g ∧ g < A 2 0 then z_try A (z_up A 7 g (1 - A 7 g)) H 4 g (1 - A 7 g) (1 - A 7 g) else (-1, A, H)
theorem z_ok_on {A : z_A} {g n : Int} (hA : z_ok A) (g0 : 0 ≤ g) (g1 : g < A 2 0) (hn : 0 ≤ n ∧ n ≤ 1) (hb : z_bears (z_up A 7 g n)) : z_ok (z_up A 7 g n) := by
  have hk : z_okn A := hA.2.2
  have := z_okn_up (ch := 7) (i := g) (v := n) hk (by decide) (by decide) (by decide)
  refine ⟨z_only_on.okg hA.1 ?_ (by rw [z_up_same]; exact hn), hb, this⟩
  rw [z_up_ne (Or.inl (by decide))]
  exact (hA.1.2.2.2.1 g g0 g1).2.2.2.2.1
theorem z_asn {w : z_Mm} {y : Int} (h : 0 ≤ y ∧ y ≤ 1) : f_X8_asNumber w y = y := by
  unfold f_X8_asNumber
  split <;> omega
theorem c_turn {sh : List z_C} {w : z_Mm} {A : z_A} {H : List z_A} {g : Int} {K : Int → z_Mm → Prop} (hT : z_isTG sh 0) (hs : z_cs w A H)
    (k : ∀ w', z_cs w' (z_dturn A H g).2.1 (z_dturn A H g).2.2 → z_frC w w' → K (z_dturn A H g).1 w') : z_CI mX8_turn [z_r 0, z_i g] sh w K := by
  obtain ⟨hA, hp, hn, hok, hh⟩ := id hs
  have hsv := z_sv_A hA.1 hA.2.1 (-1)
  have p11 : w 1 11 = A 2 0 := hp.1.2.2.1
  have r2 := hA.1.2.2.1
  unfold z_dturn at k
  refine z_CIi (t_X8_turn hT ⟨fun c => ?_, fun c => ?_⟩)
  · rw [z_fgp, p11] at c
    rw [if_neg (by omega)] at k
    exact ⟨-1, w, rfl, rfl, k w hs z_frC.rf⟩
  have hg : 0 ≤ g ∧ g < A 2 0 := by
    rw [z_fgp, p11] at c
    omega
  obtain ⟨v4, v5, v6, v7, v8⟩ := hp.1.2.2.2.1 g hg.1 hg.2
  have rr := hA.1.2.2.2.1 g hg.1 hg.2
  rw [if_pos hg] at k
  refine ⟨⟨hg.1, by omega⟩, fun y7 e7 => ?_⟩
  have ey : y7 = 1 - A 7 g := by
    rw [e7, show w 9 g = A 7 g from v8]
    split <;> omega
  have hy : 0 ≤ y7 ∧ y7 ≤ 1 := by omega
  have go : z_bears (z_up A 7 g y7) → z_CV mX0_remember [z_r 24, z_r 1] sh w (fun w9 => (0 ≤ g ∧ g < 24) ∧ (0 ≤ y7 ∧ y7 ≤ 1) ∧ ∀ w10, w10 = z_W w9 9 g y7 → z_CV mX8_finish [z_r 0, z_i 4, z_i g, z_i (f_X8_asNumber w10 y7)] sh w10 (fun w13 => ∃ (x : Int) (w' : z_Mm), some (z_i (f_X8_asNumber w13 y7)) = some (z_i x) ∧ (sh, w13) = (sh, w') ∧ K x w')) := by
    intro hb
    rw [← ey, z_try_t hb] at k
    refine c_rem hT hs (fun w8 q1 q2 q3 q4 q5 => ⟨⟨hg.1, by omega⟩, hy, fun w9 e9 => ?_⟩)
    have f9 : z_frC w8 w9 := by rw [e9]; exact z_frCW (by omega)
    rw [z_asn hy]
    refine c_finish hT (z_ok_on hA hg.1 hg.2 hy hb) (by rw [e9]; exact z_pr_on (P := 1) q1 hy) (q2.fr (fun B hB => (q3 B hB).1) (fun a a0 a1 => by rw [e9, z_Wf (by omega)])) q3 (fun w' c1 c2 => ?_)
    rw [z_asn hy]
    exact ⟨_, _, rfl, rfl, k w' c1 ((q4.trans f9).trans c2)⟩
  refine ⟨fun c4 => ?_, fun c4 => ?_⟩
  · exact go (z_only_on.off hg.1 hg.2 hA.2.1 (by rw [z_up_same]; exact c4))
  · have hring := (z_only_on (A := A) (g := g) (n := y7)).ring hA.1 hg.1 hg.2 hA.2.1 (by rw [z_up_same]; exact c4)
    rw [z_up_ne (Or.inl (by decide))] at hring
    have hf : f_X8_ringOfGap w g (w 8 g) = z_lr A (-1) (A 3 g) (A 4 g) (A 5 g) (A 6 g) := by
      unfold f_X8_ringOfGap z_lr
      rw [show w 5 g = A 3 g from v4, show w 6 g = A 4 g from v5, show w 7 g = A 5 g from v6, show w 8 g = A 6 g from v7]
      exact z_flr hsv hn.1 rr.1 rr.2.1
    refine ⟨⟨hg.1, by omega⟩, ⟨⟨hg.1, by omega⟩, ⟨hg.1, by omega⟩, ⟨hg.1, by omega⟩, ?_, True.intro⟩, fun c5 => ?_, fun c5 => ?_⟩
    · rw [show w 5 g = A 3 g from v4, show w 6 g = A 4 g from v5, show w 7 g = A 5 g from v6, show w 8 g = A 6 g from v7]
      exact z_slr hsv hn.1 rr.1 rr.2.1 rr.2.2.2.2.1
    · rw [hf] at c5
      exact go (hring.mpr c5)
    · rw [hf] at c5
      rw [← ey, z_try_f (fun hb => c5 (hring.mp hb))] at k
      exact ⟨_, _, rfl, rfl, k w hs z_frC.rf⟩
