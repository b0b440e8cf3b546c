/-! PIN, UNPIN, END: the methods -/
theorem z_fev {w : z_Mm} {e : Int} : f_X8_isEvent w e = 0 ↔ ¬ (0 ≤ e ∧ e < w 1 10) := by
  unfold f_X8_isEvent
  split
  · omega
  · split <;> omega
theorem z_fti {w : z_Mm} {e : Int} : f_X8_isTime w e = 0 ↔ ¬ (0 ≤ e ∧ e ≤ w 1 9) := by
  unfold f_X8_isTime
  split
  · omega
  · split <;> omega
theorem z_okg_pin {A : z_A} {e t : Int} (hA : z_okg A) (he : e ≠ 0) (ht : -1 ≤ t ∧ t ≤ 999) : z_okg (z_up A 8 e t) := by
  have u : ∀ (ch : Nat) (j : Int), ch ≠ 8 → z_up A 8 e t ch j = A ch j := fun ch j h => z_up_ne (Or.inl h)
  obtain ⟨a1, a2, a3, a4, a5, a6⟩ := hA
  unfold z_okg
  rw [u 0 0 (by decide), u 1 0 (by decide), u 2 0 (by decide)]
  refine ⟨a1, a2, a3, fun g g0 g1 => ?_, fun i i0 i1 => ?_, ?_⟩
  · rw [u 3 g (by decide), u 4 g (by decide), u 5 g (by decide), u 6 g (by decide), u 7 g (by decide)]
    exact a4 g g0 g1
  · by_cases q : i = e
    · subst q; rw [z_up_same]; exact ht
    · rw [z_up_ne (Or.inr q)]; exact a5 i i0 i1
  · rw [z_up_ne (Or.inr (Ne.symm he))]; exact a6
theorem z_okg_end {A : z_A} {n : Int} (hA : z_okg A) (hn : 1 ≤ n ∧ n ≤ 999) : z_okg (z_up A 0 0 n) := by
  have u : ∀ (ch : Nat) (j : Int), ch ≠ 0 → z_up A 0 0 n ch j = A ch j := fun ch j h => z_up_ne (Or.inl h)
  obtain ⟨a1, a2, a3, a4, a5, a6⟩ := hA
  unfold z_okg
  rw [z_up_same, u 1 0 (by decide), u 2 0 (by decide)]
  refine ⟨hn, a2, a3, fun g g0 g1 => ?_, fun i i0 i1 => ?_, ?_⟩
  · rw [u 3 g (by decide), u 4 g (by decide), u 5 g (by decide), u 6 g (by decide), u 7 g (by decide)]
    exact a4 g g0 g1
  · rw [u 8 i (by decide)]; exact a5 i i0 i1
  · rw [u 8 0 (by decide)]; exact a6
/-- PIN -/
noncomputable def z_dpin (A : z_A) (H : List z_A) (e t : Int) : Int × z_A × List z_A :=
  if 0 ≤ e ∧ e < A 1 0 ∧ 0 ≤ t ∧ t ≤ A 0 0 then (if e = 0 ∨ A 8 e ≠ -1 then (-3, A, H) else z_try A (z_up A 8 e t) H 5 e t (z_np (z_up A 8 e t) (A 1 0).toNat)) else (-1, A, H)
theorem z_pu1 {A : z_A} {e t : Int} : z_up A 8 e t 1 0 = A 1 0 := z_up_ne (Or.inl (by decide))
theorem z_np_note {A : z_A} {x y z : Int} : ∀ k : Nat, z_np (z_note A x y z) k = z_np A k
  | 0 => rfl
  | k + 1 => by rw [z_np, z_np, z_np_note k, z_note_lt (by decide)]
theorem c_pin {sh : List z_C} {w : z_Mm} {A : z_A} {H : List z_A} {e t : Int} {K : Int → z_Mm → Prop} (hT : z_isTG sh 0) (hs : z_cs w A H)
    (k : ∀ w', z_cs w' (z_dpin A H e t).2.1 (z_dpin A H e t).2.2 → z_frC w w' → K (z_dpin A H e t).1 w') : z_CI mX8_pin [z_r 0, z_i e, z_i t] sh w K := by
  obtain ⟨hA, hp, hn, hok, hh⟩ := id hs
  have hsv := z_sv_A hA.1 hA.2.1 (-1)
  have p9 : w 1 9 = A 0 0 := hp.1.1
  have p10 : w 1 10 = A 1 0 := hp.1.2.1
  have r0 := hA.1.1
  have r1 := hA.1.2.1
  unfold z_dpin at k
  refine z_CIi (t_X8_pin hT ⟨fun c => ?_, fun c => ⟨fun c2 => ?_, fun c2 => ?_⟩⟩)
  · rw [z_fev, p10] at c
    rw [if_neg (by omega)] at k
    exact ⟨-1, w, rfl, rfl, k w hs z_frC.rf⟩
  · rw [z_fti, p9] at c2
    rw [if_neg (by omega)] at k
    exact ⟨-1, w, rfl, rfl, k w hs z_frC.rf⟩
  have he : 0 ≤ e ∧ e < A 1 0 := by
    rw [z_fev, p10] at c
    omega
  have ht : 0 ≤ t ∧ t ≤ A 0 0 := by
    rw [z_fti, p9] at c2
    omega
  rw [if_pos ⟨he.1, he.2, ht⟩] at k
  have hip : f_X8_isPinnable w e = 0 ↔ (e = 0 ∨ A 8 e ≠ -1) := by
    unfold f_X8_isPinnable
    rw [z_fipn hp.1 he.1 he.2]
    split
    · omega
    · by_cases q : A 8 e = -1
      · simp [q]; assumption
      · simp [q]
  refine ⟨⟨fun _ => ⟨⟨⟨he.1, by omega⟩, True.intro⟩, True.intro⟩, True.intro⟩, fun c3 => ?_, fun c3 => ?_⟩
  · rw [if_pos (hip.mp c3)] at k
    exact ⟨-3, w, rfl, rfl, k w hs z_frC.rf⟩
  have hne := fun q => c3 (hip.mpr q)
  rw [if_neg hne] at k
  have e1 : 1 ≤ e := by
    have : ¬ e = 0 := fun q => hne (Or.inl q)
    omega
  have hu : A 8 e = -1 := Classical.byContradiction fun q => hne (Or.inr q)
  have hiff := z_pin_iff hA.1 hA.2.1 e1 he.2 hu ht.1
  refine ⟨z_sal hsv hn.1 he, fun c4 => ?_, fun c4 => ?_⟩
  · rw [z_fal hsv hn.1 he] at c4
    have nb : ¬ z_bears (z_up A 8 e t) := fun hb => by rw [if_pos (hiff.mp hb)] at c4; omega
    rw [z_try_f nb] at k
    exact ⟨-5, w, rfl, rfl, k w hs z_frC.rf⟩
  · rw [z_fal hsv hn.1 he] at c4
    have hb : z_bears (z_up A 8 e t) := Classical.byContradiction fun nb => c4 (if_neg (fun q => nb (hiff.mpr q)))
    have hB : z_ok (z_up A 8 e t) := ⟨z_okg_pin hA.1 (by omega) (by omega), hb, z_okn_up hA.2.2 (by decide) (by decide) (by decide)⟩
    rw [z_try_t hb] at k
    refine c_rem hT hs (fun w8 q1 q2 q3 q4 q5 => ⟨⟨he.1, by omega⟩, fun w9 e9 => ?_⟩)
    have f9 : z_frC w8 w9 := by rw [e9]; exact z_frCW (by omega)
    refine c_finish hT hB (by rw [e9]; exact z_pr_pin (P := 1) q1) (q2.fr (fun B hB => (q3 B hB).1) (fun a a0 a1 => by rw [e9, z_Wf (by omega)])) q3 (fun w' c1 c2 => ?_)
    refine c_countPinned hT.2.1 c1.1.1 c1.2.1.1 ?_
    refine ⟨_, _, rfl, rfl, ?_⟩
    rw [z_np_note, z_note_lt (by decide), z_pu1]
    exact k w' c1 ((q4.trans f9).trans c2)
/-- UNPIN -/
def z_dunpin (A : z_A) (H : List z_A) (e : Int) : Int × z_A × List z_A :=
  if 0 ≤ e ∧ e < A 1 0 then (if A 8 e = -1 then (-3, A, H) else (A 8 e, z_note (z_up A 8 e (-1)) 6 e (A 8 e), z_push H A)) else (-1, A, H)
theorem c_unpin {sh : List z_C} {w : z_Mm} {A : z_A} {H : List z_A} {e : Int} {K : Int → z_Mm → Prop} (hT : z_isTG sh 0) (hs : z_cs w A H)
    (k : ∀ w', z_cs w' (z_dunpin A H e).2.1 (z_dunpin A H e).2.2 → z_frC w w' → K (z_dunpin A H e).1 w') : z_CI mX8_unpin [z_r 0, z_i e] sh w K := by
  obtain ⟨hA, hp, hn, hok, hh⟩ := id hs
  have p10 : w 1 10 = A 1 0 := hp.1.2.1
  have r1 := hA.1.2.1
  unfold z_dunpin at k
  refine z_CIi (t_X8_unpin hT ⟨fun c => ?_, fun c => ?_⟩)
  · rw [z_fev, p10] at c
    rw [if_neg (by omega)] at k
    exact ⟨-1, w, rfl, rfl, k w hs z_frC.rf⟩
  have he : 0 ≤ e ∧ e < A 1 0 := by
    rw [z_fev, p10] at c
    omega
  have h8 : w 4 e = A 8 e := hp.1.2.2.2.2 e he.1 he.2
  rw [if_pos he] at k
  refine ⟨⟨⟨he.1, by omega⟩, True.intro⟩, fun c2 => ?_, fun c2 => ⟨⟨he.1, by omega⟩, fun y5 e5 => ?_⟩⟩
  · rw [z_fipn hp.1 he.1 he.2] at c2
    have hu : A 8 e = -1 := Classical.byContradiction fun q => by rw [if_neg q] at c2; omega
    rw [if_pos hu] at k
    exact ⟨-3, w, rfl, rfl, k w hs z_frC.rf⟩
  · rw [z_fipn hp.1 he.1 he.2] at c2
    have hu : A 8 e ≠ -1 := fun q => c2 (if_pos q)
    have e0 : e ≠ 0 := fun q => hu (by rw [q]; exact hA.1.2.2.2.2.2)
    have hb : z_bears (z_up A 8 e (-1)) := by
      obtain ⟨x, hx⟩ := hA.2.1
      exact ⟨x, z_F_unpin hx⟩
    have hB : z_ok (z_up A 8 e (-1)) := ⟨z_okg_pin hA.1 e0 (by omega), hb, z_okn_up hA.2.2 (by decide) (by decide) (by decide)⟩
    rw [if_neg hu] at k
    have ey : y5 = A 8 e := e5.trans h8
    rw [ey]
    refine c_rem hT hs (fun w8 q1 q2 q3 q4 q5 => ⟨⟨he.1, by omega⟩, fun w9 e9 => ?_⟩)
    have f9 : z_frC w8 w9 := by rw [e9]; exact z_frCW (by omega)
    refine c_finish hT hB (by rw [e9]; exact z_pr_pin (P := 1) q1) (q2.fr (fun B hB => (q3 B hB).1) (fun a a0 a1 => by rw [e9, z_Wf (by omega)])) q3 (fun w' c1 c2 => ?_)
    exact ⟨_, _, rfl, rfl, k w' c1 ((q4.trans f9).trans c2)⟩
/-- END -/
noncomputable def z_dend (A : z_A) (H : List z_A) (n : Int) : Int × z_A × List z_A :=
  if 1 ≤ n ∧ n ≤ 999 then (if A 0 0 = n then (-2, A, H) else z_try A (z_up A 0 0 n) H 7 n (A 0 0) (A 0 0)) else (-1, A, H)
theorem c_end {sh : List z_C} {w : z_Mm} {A : z_A} {H : List z_A} {n : Int} {K : Int → z_Mm → Prop} (hT : z_isTG sh 0) (hs : z_cs w A H)
    (k : ∀ w', z_cs w' (z_dend A H n).2.1 (z_dend A H n).2.2 → z_frC w w' → K (z_dend A H n).1 w') : z_CI mX8_end [z_r 0, z_i n] sh w K := by
  obtain ⟨hA, hp, hn, hok, hh⟩ := id hs
  have hsv := z_sv_A hA.1 hA.2.1 (-1)
  have p9 : w 1 9 = A 0 0 := hp.1.1
  unfold z_dend at k
  refine z_CIi (t_X8_end hT ⟨fun c => ?_, fun c => ⟨fun c2 y3 e3 => ?_, fun c2 => ?_⟩⟩)
  · rw [if_neg (by omega)] at k
    exact ⟨-1, w, rfl, rfl, k w hs z_frC.rf⟩
  · rw [if_pos (by omega)] at k
    have ey : y3 = A 0 0 := e3.trans p9
    rw [ey]
    refine ⟨fun c3 => ?_, fun c3 => ?_⟩
    · rw [if_pos c3.symm] at k
      exact ⟨-2, w, rfl, rfl, k w hs z_frC.rf⟩
    · rw [if_neg (fun q => c3 q.symm)] at k
      have hiff := z_end_iff hA.1 hA.2.1 (n := n) (by omega)
      refine c_greatest hT.2.2.1 hsv hn.1 (fun v hv h1 h2 => ⟨fun c4 => ?_, fun c4 => ?_⟩)
      · have hb : z_bears (z_up A 0 0 n) := hiff.mpr (fun e e0 e1 => Int.le_trans (h1 e e0 e1) c4)
        have hB : z_ok (z_up A 0 0 n) := ⟨z_okg_end hA.1 (by omega), hb, z_okn_up hA.2.2 (by decide) (by decide) (by decide)⟩
        rw [z_try_t hb] at k
        refine c_rem hT hs (fun w8 q1 q2 q3 q4 q5 => fun w9 e9 => ?_)
        have f9 : z_frC w8 w9 := by rw [e9]; exact z_frCW (by omega)
        refine c_finish hT hB (by rw [e9]; exact z_pr_end (P := 1) q1) (q2.fr (fun B hB => (q3 B hB).1) (fun a a0 a1 => by rw [e9, z_Wf (by omega)])) q3 (fun w' c1 c2 => ?_)
        exact ⟨_, _, rfl, rfl, k w' c1 ((q4.trans f9).trans c2)⟩
      · have nb : ¬ z_bears (z_up A 0 0 n) := by
          intro hb
          have hq := hiff.mp hb
          rcases h2 with q | ⟨e, e0, e1, e2⟩
          · omega
          · have := hq e e0 e1
            omega
        rw [z_try_f nb] at k
        exact ⟨-5, w, rfl, rfl, k w hs z_frC.rf⟩
  · rw [if_neg (by omega)] at k
    exact ⟨-1, w, rfl, rfl, k w hs z_frC.rf⟩
