/-! PINALL -/
/-- the events before i that were not pinned are, at their earliest -/
noncomputable def z_pp (A : z_A) (i : Int) : z_A := fun ch j => if ch = 8 ∧ 1 ≤ j ∧ j < i ∧ A 8 j = -1 then - z_dd A (-1) j 0 else A ch j
theorem z_pp_ne {A : z_A} {i j : Int} {ch : Nat} (h : ch ≠ 8 ∨ i ≤ j ∨ j < 1 ∨ A 8 j ≠ -1) : z_pp A i ch j = A ch j := by
  unfold z_pp
  rw [if_neg]
  rintro ⟨a, b, c, d⟩
  rcases h with h | h | h | h
  · exact h a
  · omega
  · omega
  · exact h d
theorem z_pp_at {A : z_A} {i j : Int} (h0 : 1 ≤ j) (h1 : j < i) (h2 : A 8 j = -1) : z_pp A i 8 j = - z_dd A (-1) j 0 := if_pos ⟨rfl, h0, h1, h2⟩
theorem z_pp_1 {A : z_A} : z_pp A 1 = A := by
  funext ch j
  by_cases h : 1 ≤ j
  · exact z_pp_ne (Or.inr (Or.inl h))
  · exact z_pp_ne (Or.inr (Or.inr (Or.inl (by omega))))
theorem z_pp_up {A : z_A} {i : Int} (i0 : 1 ≤ i) (h : A 8 i = -1) : z_up (z_pp A i) 8 i (- z_dd A (-1) i 0) = z_pp A (i + 1) := by
  funext ch j
  by_cases q : ch = 8 ∧ j = i
  · obtain ⟨q1, q2⟩ := q
    subst q1; subst q2
    rw [z_up_same, z_pp_at i0 (by omega) h]
  · rw [z_up_ne (by omega)]
    by_cases c : ch = 8 ∧ 1 ≤ j ∧ j < i ∧ A 8 j = -1
    · obtain ⟨c1, c2, c3, c4⟩ := c
      subst c1
      rw [z_pp_at c2 c3 c4, z_pp_at c2 (by omega) c4]
    · have e1 : z_pp A i ch j = A ch j := if_neg c
      have e2 : z_pp A (i + 1) ch j = A ch j := if_neg (fun ⟨c1, c2, c3, c4⟩ => c ⟨c1, c2, by omega, c4⟩)
      rw [e1, e2]
theorem z_pp_no {A : z_A} {i : Int} (h : ¬ A 8 i = -1) : z_pp A i = z_pp A (i + 1) := by
  funext ch j
  by_cases c : ch = 8 ∧ 1 ≤ j ∧ j < i ∧ A 8 j = -1
  · obtain ⟨c1, c2, c3, c4⟩ := c
    subst c1
    rw [z_pp_at c2 c3 c4, z_pp_at c2 (by omega) c4]
  · have e1 : z_pp A i ch j = A ch j := if_neg c
    have e2 : z_pp A (i + 1) ch j = A ch j := if_neg (fun ⟨c1, c2, c3, c4⟩ => by
      by_cases q : j = i
      · rw [q] at c4; exact h c4
      · exact c ⟨c1, c2, by omega, c4⟩)
    rw [e1, e2]
theorem z_ea_R {A : z_A} {e : Int} (hA : z_okg A) (hb : z_bears A) (e0 : 0 ≤ e) (e1 : e < A 1 0) : 0 ≤ - z_dd A (-1) e 0 ∧ - z_dd A (-1) e 0 ≤ 999 := by
  have r1 := hA.2.1
  have b0 : z_bl (A 1 0) 0 := ⟨by omega, by omega⟩
  have r := z_dd_R (lo := -1) hA hb (a := e) (b := 0) ⟨e0, e1⟩ b0
  obtain ⟨y, hy, hy2⟩ := (z_isd hA hb (-1) e 0 ⟨e0, e1⟩ b0).2
  by_cases c : e = 0
  · subst c; omega
  · have := (((z_F_iff hA).mp hy).2.1 e (by omega) e1).2
    omega
theorem z_okg_pp {A : z_A} {i : Int} (hA : z_okg A) (hb : z_bears A) : z_okg (z_pp A i) := by
  obtain ⟨a1, a2, a3, a4, a5, a6⟩ := id hA
  unfold z_okg
  rw [z_pp_ne (ch := 0) (by omega), z_pp_ne (ch := 1) (by omega), z_pp_ne (ch := 2) (by omega)]
  refine ⟨a1, a2, a3, fun g g0 g1 => ?_, fun e e0 e1 => ?_, by rw [z_pp_ne (by omega)]; exact a6⟩
  · rw [z_pp_ne (ch := 3) (by omega), z_pp_ne (ch := 4) (by omega), z_pp_ne (ch := 5) (by omega), z_pp_ne (ch := 6) (by omega), z_pp_ne (ch := 7) (by omega)]
    exact a4 g g0 g1
  · by_cases c : 1 ≤ e ∧ e < i ∧ A 8 e = -1
    · rw [z_pp_at c.1 c.2.1 c.2.2]
      have := z_ea_R hA hb e0 e1
      omega
    · have q : z_pp A i 8 e = A 8 e := if_neg (fun ⟨_, c2, c3, c4⟩ => c ⟨c2, c3, c4⟩)
      rw [q]; exact a5 e e0 e1
theorem z_okn_pp {A : z_A} {i : Int} (h : z_okn A) : z_okn (z_pp A i) := z_okn_of h (z_pp_ne (by omega)) (fun _ => z_pp_ne (by omega)) (z_pp_ne (by omega))
theorem z_bears_pp {A : z_A} {i : Int} (hA : z_okg A) (hb : z_bears A) : z_bears (z_pp A i) := by
  have r1 := hA.2.1
  have b0 : z_bl (A 1 0) 0 := ⟨by omega, by omega⟩
  have hsv := z_sv_A hA hb (-1)
  have hf := (z_F_iff hA).mp (z_DFe' (z_isd hA hb (-1)) hsv.2.1 b0)
  have h00 : z_dd A (-1) 0 0 = 0 := z_D0 (z_isd hA hb (-1)) b0
  refine ⟨fun v => - z_dd A (-1) v 0, ?_⟩
  obtain ⟨h1, h2, h3⟩ := hf
  unfold z_F
  rw [z_pp_ne (ch := 2) (by omega), z_pp_ne (ch := 1) (by omega), z_pp_ne (ch := 0) (by omega)]
  refine ⟨fun g g0 g1 g2 g3 => ?_, h2, fun e e0 e1 e2 => ?_⟩
  · have := h1 g g0 g1 (by rw [z_pp_ne (ch := 7) (by omega)] at g2; exact g2) g3
    exact (z_Fg_eq (z_pp_ne (by omega)) (z_pp_ne (by omega)) (z_pp_ne (by omega)) (z_pp_ne (by omega))).mpr this
  · by_cases c : 1 ≤ e ∧ e < i ∧ A 8 e = -1
    · rw [z_pp_at c.1 c.2.1 c.2.2]
      show - z_dd A (-1) e 0 - - z_dd A (-1) 0 0 = - z_dd A (-1) e 0
      omega
    · have q : z_pp A i 8 e = A 8 e := if_neg (fun ⟨_, c2, c3, c4⟩ => c ⟨c2, c3, c4⟩)
      rw [q] at e2 ⊢
      exact h3 e e0 e1 e2
/-- how many of the first i are not pinned (START apart) -/
def z_cu (A : z_A) (i : Int) : Int := i - 1 - z_np A i.toNat
theorem z_cu_s {A : z_A} {i : Int} (i0 : 0 ≤ i) : (A 8 i = -1 → z_cu A (i + 1) = z_cu A i + 1) ∧ (¬ A 8 i = -1 → z_cu A (i + 1) = z_cu A i) := by
  unfold z_cu
  have ek : (i + 1).toNat = i.toNat + 1 := by omega
  rw [ek, z_np, show ((i.toNat : Nat) : Int) = i by omega]
  constructor
  · intro h
    rw [if_pos h]; omega
  · intro h
    rw [if_neg h]; omega
theorem z_cu_1 {A : z_A} (hA : z_okg A) : z_cu A 1 = 0 := by
  have h := (z_cu_s (A := A) (i := 0) (by omega)).1 hA.2.2.2.2.2
  rw [show (0 : Int) + 1 = 1 by rfl] at h
  rw [h]
  rfl
theorem z_cu_R {A : z_A} {i : Int} (hA : z_okg A) (i1 : 1 ≤ i) : -1 ≤ z_cu A i ∧ z_cu A i ≤ i := by
  have := z_np_R (A := A) i.toNat
  unfold z_cu
  omega
noncomputable def z_dpall (A : z_A) (H : List z_A) : Int × z_A × List z_A :=
  if z_cu A (A 1 0) = 0 then (-2, A, H) else (z_cu A (A 1 0), z_note (z_pp A (A 1 0)) 13 (z_cu A (A 1 0)) (z_np (z_pp A (A 1 0)) (A 1 0).toNat), z_push H A)
theorem c_pinAll {sh : List z_C} {w : z_Mm} {A : z_A} {H : List z_A} {K : Int → z_Mm → Prop} (hT : z_isTG sh 0) (hs : z_cs w A H)
    (k : ∀ w', z_cs w' (z_dpall A H).2.1 (z_dpall A H).2.2 → z_frC w w' → K (z_dpall A H).1 w') : z_CI mX8_pinAll [z_r 0] sh w K := by
  obtain ⟨hA, hp, hn, hok, hh⟩ := id hs
  have r1 := hA.1.2.1
  have hsv := z_sv_A hA.1 hA.2.1 (-1)
  have p10 : w 1 10 = A 1 0 := hp.1.2.1
  have b0 : z_bl (A 1 0) 0 := ⟨by omega, by omega⟩
  unfold z_dpall at k
  refine z_CIi (t_X8_pinAll hT ?_)
  rw [p10]
  refine ⟨⟨by omega, by omega⟩, ?_⟩
  refine c_countPinned hT.2.1 hA.1 hp.1 ?_
  have rn := z_np_R (A := A) (A 1 0).toNat
  have ec : A 1 0 - 1 - z_np A (A 1 0).toNat = z_cu A (A 1 0) := rfl
  rw [ec]
  refine ⟨by rw [← ec]; exact ⟨by omega, by omega⟩, fun c => ?_, fun c => ?_⟩
  · rw [if_pos c] at k
    exact ⟨_, _, rfl, rfl, k w hs z_frC.rf⟩
  · rw [if_neg c] at k
    refine c_rem hT hs (fun w6 q1 q2 q3 q4 q5 => ?_)
    have hn6 : z_net w6 12 A (-1) := hn.fr (fun a a0 a1 => q5 a (by omega))
    refine z_for (n := A 1 0) (i0 := 1) (fun i v => z_Sem mX8_pinAll (sh.length, 0) 38 [(0, z_r 0), (1, z_i (z_cu A (A 1 0))), (2, z_i i)] [] (sh, v) _)
      (fun i u => z_pr u 1 (z_pp A i) ∧ ∀ a : Nat, (a < 1 ∨ 11 < a) → u a = w6 a) (by omega) ⟨by rw [z_pp_1]; exact q1, fun _ _ => rfl⟩ ?_ ?_
    · rintro u ⟨up, uf⟩
      have u10 : u 1 10 = A 1 0 := up.1.2.1.trans (z_pp_ne (by omega))
      have hB : z_ok (z_pp A (A 1 0)) := ⟨z_okg_pp hA.1 hA.2.1, z_bears_pp hA.1 hA.2.1, z_okn_pp hA.2.2⟩
      refine t_X8_pinAll_38 hT ⟨fun _ => ?_, fun c => absurd c (by omega)⟩
      refine c_countPinned hT.2.1 hB.1 up.1 ?_
      rw [z_pp_ne (ch := 1) (by omega)]
      refine c_finish hT hB up (q2.fr (fun C hC => (q3 C hC).1) (fun a a0 a1 => uf a (by omega))) q3 (fun w' c1 c2 => ⟨_, _, rfl, rfl, k w' c1 ((q4.trans (fun a ha => uf a (by omega))).trans c2)⟩)
    · rintro i u i0 i1 ⟨up, uf⟩ kk
      have u10 : u 1 10 = A 1 0 := up.1.2.1.trans (z_pp_ne (by omega))
      have hnu : z_net u 12 A (-1) := hn6.fr (fun a a0 a1 => uf a (by omega))
      have bi : z_bl (A 1 0) i := ⟨by omega, i1⟩
      have ep : f_X3_isPinned u 1 i = if A 8 i = -1 then 0 else 1 := by
        rw [z_fipn up.1 (by omega) (by rw [z_pp_ne (ch := 1) (by omega)]; exact i1), z_pp_ne (ch := 8) (by omega)]
      refine t_X8_pinAll_38 hT ⟨fun c => absurd c (by omega), fun _ => ⟨⟨⟨by omega, by omega⟩, True.intro⟩, fun c2 => ?_, fun c2 => ?_⟩⟩
      · have hu : A 8 i = -1 := Classical.byContradiction fun q => by rw [ep, if_neg q] at c2; omega
        rw [z_fea hsv hnu.1 bi]
        refine ⟨z_sea hsv hnu.1 bi, ⟨by omega, by omega⟩, fun w9 e9 => ⟨⟨by omega, by omega⟩, kk w9 ⟨?_, fun a ha => by rw [e9, z_Wf (by omega), uf a ha]⟩⟩⟩
        rw [e9, ← z_pp_up i0 hu]
        exact z_pr_pin (P := 1) up
      · have hu : ¬ A 8 i = -1 := fun q => by rw [ep, if_pos q] at c2; exact c2 rfl
        exact ⟨⟨by omega, by omega⟩, kk u ⟨by rw [← z_pp_no hu]; exact up, uf⟩⟩
