/-! TELL and DROP -/
theorem z_tell_iff {A : z_A} {one oth kd n : Int} (hA : z_okg A) (hb : z_bears A) (h1 : 0 ≤ one ∧ one < A 1 0) (h2 : 0 ≤ oth ∧ oth < A 1 0) : z_bears (z_add A one oth kd n 1) ↔ 0 ≤ z_lr A (-1) one oth kd n := by
  have hsv := z_sv_A hA hb (-1)
  have key := z_ring1 (l' := if kd = 0 then n else -n) (l := 0) (z_sv_D hsv) (p := if kd = 0 then one else oth) (q := if kd = 0 then oth else one) (F0 := z_F A (-1)) (o := False)
    (by split <;> assumption) (by split <;> assumption) (fun x => by rw [z_F_iff hA]; exact ⟨fun h => ⟨h, fun f => f.elim⟩, fun h => h.1⟩)
  unfold z_lr
  rw [← key]
  have r2 := hA.2.2.1
  constructor
  · rintro ⟨x, hx⟩
    exact ⟨x, (z_F_add (by omega)).mp hx⟩
  · rintro ⟨x, hx⟩
    exact ⟨x, (z_F_add (by omega)).mpr hx⟩
/-- TELL -/
noncomputable def z_dtell (A : z_A) (H : List z_A) (one oth kd n : Int) : Int × z_A × List z_A :=
  if (0 ≤ one ∧ one < A 1 0) ∧ (0 ≤ oth ∧ oth < A 1 0) ∧ one ≠ oth ∧ (0 ≤ kd ∧ kd ≤ 1) ∧ (0 ≤ n ∧ n ≤ 999) then
    (if A 2 0 = 24 then (-4, A, H) else @ite _ (z_bears (z_add A one oth kd n 1)) (Classical.propDecidable _) (A 2 0, z_note (z_add A one oth kd n 1) 1 (A 2 0) n, z_push H A) (-5, z_note A 8 kd n, z_push H A))
  else (-1, A, H)
theorem z_f2e {w : z_Mm} {a b : Int} : f_X8_areTwoEvents w a b = 0 ↔ ¬ ((0 ≤ a ∧ a < w 1 10) ∧ (0 ≤ b ∧ b < w 1 10) ∧ a ≠ b) := by
  have ha := z_fev (w := w) (e := a)
  have hb := z_fev (w := w) (e := b)
  unfold f_X8_areTwoEvents
  split
  · omega
  · split
    · omega
    · split <;> omega
theorem z_fkd {w : z_Mm} {a : Int} : f_X8_isKind w a = 0 ↔ ¬ (0 ≤ a ∧ a ≤ 1) := by
  unfold f_X8_isKind
  split
  · omega
  · split <;> omega
theorem z_ftl {w : z_Mm} {one oth kd n : Int} : f_X8_isTellable w one oth kd n = 0 ↔ ¬ ((0 ≤ one ∧ one < w 1 10) ∧ (0 ≤ oth ∧ oth < w 1 10) ∧ one ≠ oth ∧ (0 ≤ kd ∧ kd ≤ 1) ∧ (0 ≤ n ∧ n ≤ 999)) := by
  have h1 := z_f2e (w := w) (a := one) (b := oth)
  have h2 := z_fkd (w := w) (a := kd)
  have h3 := z_fnum (w := w) (n := n)
  unfold f_X8_isTellable
  split
  · omega
  · split
    · omega
    · split <;> omega
theorem z_cs.note {w w' : z_Mm} {A : z_A} {H G : List z_A} {x y z : Int} (hs : z_cs w A H) (hp : z_pr w 1 A) (hl : z_lg w' 10 (z_note A x y z)) (hG : ∀ B ∈ G, z_ok B) (hh : z_hr w' G) (hf : ∀ a : Nat, a < 24 → a ≠ 10 → a ≠ 11 → w' a = w a) : z_cs w' (z_note A x y z) G := by
  obtain ⟨hA, -, hn, -, -⟩ := hs
  have e := z_eqg_note A x y z
  refine ⟨z_ok_note hA, ?_, e.net hA.1 (hn.fr (fun a a0 a1 => hf a (by omega) (by omega) (by omega))), hG, hh⟩
  obtain ⟨⟨p1, p2, p3, p4, p5⟩, p6, -, p8⟩ := hp
  refine ⟨⟨?_, ?_, ?_, fun g g0 g1 => ?_, fun i i0 i1 => ?_⟩, fun i i0 i1 => ?_, hl, fun g g0 g1 => ?_⟩
  · rw [hf 1 (by omega) (by omega) (by omega), p1]; exact (z_note_lt (by decide)).symm
  · rw [hf 1 (by omega) (by omega) (by omega), p2]; exact (z_note_lt (by decide)).symm
  · rw [hf 1 (by omega) (by omega) (by omega), p3]; exact (z_note_lt (by decide)).symm
  · rw [z_note_lt (by decide)] at g1
    rw [hf (1 + 4) (by omega) (by omega) (by omega), hf (1 + 5) (by omega) (by omega) (by omega), hf (1 + 6) (by omega) (by omega) (by omega), hf (1 + 7) (by omega) (by omega) (by omega), hf (1 + 8) (by omega) (by omega) (by omega), z_note_lt (by decide), z_note_lt (by decide), z_note_lt (by decide), z_note_lt (by decide), z_note_lt (by decide)]
    exact p4 g g0 g1
  · rw [z_note_lt (by decide)] at i1
    rw [hf (1 + 3) (by omega) (by omega) (by omega), z_note_lt (by decide)]
    exact p5 i i0 i1
  · rw [z_note_lt (by decide)] at i1
    obtain ⟨c, c1, c2, c3, c4, c5⟩ := p6 i i0 i1
    rw [z_note_lt (by decide)]
    exact ⟨c, c1, c2, by rw [hf (1 + 2) (by omega) (by omega) (by omega)]; exact c3, fun j j0 j1 => by rw [hf (1 + 1) (by omega) (by omega) (by omega)]; exact c4 j j0 j1, by rw [hf (1 + 1) (by omega) (by omega) (by omega)]; exact c5⟩
  · rw [hf (1 + 8) (by omega) (by omega) (by omega)]
    exact p8 g g0 g1
theorem c_tell {sh : List z_C} {w : z_Mm} {A : z_A} {H : List z_A} {one oth kd n : Int} {K : Int → z_Mm → Prop} (hT : z_isTG sh 0) (hs : z_cs w A H)
    (k : ∀ w', z_cs w' (z_dtell A H one oth kd n).2.1 (z_dtell A H one oth kd n).2.2 → z_frC w w' → K (z_dtell A H one oth kd n).1 w') : z_CI mX8_tell [z_r 0, z_i one, z_i oth, z_i kd, z_i n] sh w K := by
  obtain ⟨hA, hp, hn, hok, hh⟩ := id hs
  have hsv := z_sv_A hA.1 hA.2.1 (-1)
  have p10 : w 1 10 = A 1 0 := hp.1.2.1
  have p11 : w 1 11 = A 2 0 := hp.1.2.2.1
  have r2 := hA.1.2.2.1
  unfold z_dtell at k
  refine z_CIi (t_X8_tell hT ⟨fun c => ?_, fun c => ?_⟩)
  · rw [z_ftl, p10] at c
    rw [if_neg (by omega)] at k
    exact ⟨-1, w, rfl, rfl, k w hs z_frC.rf⟩
  have ht : (0 ≤ one ∧ one < A 1 0) ∧ (0 ≤ oth ∧ oth < A 1 0) ∧ one ≠ oth ∧ (0 ≤ kd ∧ kd ≤ 1) ∧ (0 ≤ n ∧ n ≤ 999) := by
    rw [z_ftl, p10] at c
    omega
  rw [if_pos ht] at k
  obtain ⟨t1, t2, t3, t4, t5⟩ := ht
  rw [p11]
  refine ⟨fun c2 => ?_, fun c2 => ?_⟩
  · rw [if_pos c2] at k
    exact ⟨-4, w, rfl, rfl, k w hs z_frC.rf⟩
  rw [if_neg c2] at k
  have hiff := z_tell_iff (kd := kd) (n := n) hA.1 hA.2.1 t1 t2
  refine c_rem hT hs (fun w3 q1 q2 q3 q4 q5 => ?_)
  have hn3 : z_net w3 12 A (-1) := hn.fr (fun a a0 a1 => q5 a (by omega))
  have hf : f_X2_leastRing w3 12 one oth kd n = z_lr A (-1) one oth kd n := z_flr hsv hn3.1 t1 t2
  refine ⟨z_slr hsv hn3.1 t1 t2 t5, fun c3 => ?_, fun c3 => ?_⟩
  · rw [hf] at c3
    have hb := hiff.mpr c3
    rw [if_pos hb] at k
    refine c_addGap hT.2.1 hA.1 (by omega) ⟨by decide, by decide⟩ q1 (fun w6 a1 a2 => ?_)
    have hB : z_ok (z_add A one oth kd n 1) := ⟨z_okg_add hA.1 (by omega) t1 t2 t3 t4 t5 (by omega), hb, z_okn_add hA.2.2⟩
    refine c_finish hT hB a1 (q2.fr (fun B hB => (q3 B hB).1) (fun a a0 a1 => a2 a (by omega))) q3 (fun w' c1 c2 => ?_)
    exact ⟨_, _, rfl, rfl, k w' c1 ((q4.trans (fun a ha => a2 a (by omega))).trans c2)⟩
  · rw [hf] at c3
    have nb : ¬ z_bears (z_add A one oth kd n 1) := fun hb => c3 (hiff.mp hb)
    rw [if_neg nb] at k
    have hL : z_isLog sh 10 := hT.2.1.2.2.2.2.2.2.2.2.2
    refine c_note hL q1.2.2.1 (x := 8) (y := kd) (z := n) (fun w9 l9 f9 => ?_)
    refine ⟨_, _, rfl, rfl, k w9 (hs.note hp l9 q3 (q2.fr (fun B hB => (q3 B hB).1) (fun a a0 a1 => f9 a (by omega) (by omega))) (fun a a0 a1 a2 => by rw [f9 a a1 a2, q5 a a0])) (q4.trans (fun a ha => f9 a (by omega) (by omega)))⟩
/-- DROP -/
def z_ddrop (A : z_A) (H : List z_A) (g : Int) : Int × z_A × List z_A :=
  if 0 ≤ g ∧ g < A 2 0 then (A 2 0 - 1, z_note (z_cut A g) 2 g (A 6 g), z_push H A) else (-1, A, H)
theorem z_cut_note {A : z_A} {g x y z : Int} : z_cut (z_note A x y z) g = z_note (z_cut A g) x y z := by
  funext ch i
  by_cases h : ch < 10
  · rw [z_note_lt h]
    unfold z_cut
    rw [z_note_lt (by decide), z_note_lt (by decide), z_note_lt h, z_note_lt h]
  · rw [z_cut_lt (by omega)]
    unfold z_note
    rw [z_cut_lt (by omega), z_cut_lt (by omega), z_cut_lt (by omega), z_cut_lt (by omega), z_cut_lt (by omega), z_cut_lt (by omega), z_cut_lt (by omega), z_cut_lt (by omega)]
theorem c_drop {sh : List z_C} {w : z_Mm} {A : z_A} {H : List z_A} {g : Int} {K : Int → z_Mm → Prop} (hT : z_isTG sh 0) (hs : z_cs w A H)
    (k : ∀ w', z_cs w' (z_ddrop A H g).2.1 (z_ddrop A H g).2.2 → z_frC w w' → K (z_ddrop A H g).1 w') : z_CI mX8_drop [z_r 0, z_i g] sh w K := by
  obtain ⟨hA, hp, hn, hok, hh⟩ := id hs
  have p11 : w 1 11 = A 2 0 := hp.1.2.2.1
  have r2 := hA.1.2.2.1
  unfold z_ddrop at k
  refine z_CIi (t_X8_drop hT ⟨fun c => ?_, fun c => ?_⟩)
  · rw [z_fgp, p11] at c
    rw [if_neg (by omega)] at k
    exact ⟨-1, w, rfl, rfl, k w hs z_frC.rf⟩
  have hg : 0 ≤ g ∧ g < A 2 0 := by
    rw [z_fgp, p11] at c
    omega
  rw [if_pos hg] at k
  refine ⟨⟨hg.1, by omega⟩, fun y3 e3 => ?_⟩
  have ey : y3 = A 6 g := e3.trans (hp.1.2.2.2.1 g hg.1 hg.2).2.2.2.1
  rw [ey]
  refine c_rem hT hs (fun w4 q1 q2 q3 q4 q5 => ?_)
  refine c_removeGap hT.2.1 hA.1 hg.1 hg.2 q1 (fun w5 a1 a2 => ?_)
  have hB : z_ok (z_cut A g) := ⟨z_okg_cut hA.1 hg.1 hg.2, z_bears_cut hg.1 hg.2 hA.2.1, z_okn_cut hA.2.2⟩
  refine c_finish hT hB a1 (q2.fr (fun B hB => (q3 B hB).1) (fun a a0 a1 => a2 a (by omega))) q3 (fun w' c1 c2 => ?_)
  have e11 : w' 1 11 = A 2 0 - 1 := by
    have := c1.2.1.1.2.2.1
    rw [z_note_lt (by decide), z_cut_2] at this
    exact this
  rw [e11]
  exact ⟨_, _, rfl, rfl, k w' c1 ((q4.trans (fun a ha => a2 a (by omega))).trans c2)⟩
