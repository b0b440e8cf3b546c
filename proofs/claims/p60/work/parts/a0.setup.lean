/-! THE SETUP TEXT -/
def z_xg (A : z_A) (g : Int) (L : List Int) : List Int :=
  (if A 7 g = 0 then (L ++ z_str 19 ++ z_nl (A 9 (A 3 g)) ++ [32] ++ z_nl (A 9 (A 4 g)) ++ (if A 5 g = 0 then z_str 20 else z_str 21) ++ z_dl (A 6 g)) ++ z_str 22
    else (L ++ z_str 19 ++ z_nl (A 9 (A 3 g)) ++ [32] ++ z_nl (A 9 (A 4 g)) ++ (if A 5 g = 0 then z_str 20 else z_str 21) ++ z_dl (A 6 g))) ++ [59]
def z_x0 (A : z_A) : List Int := z_str 16 ++ z_dl (A 0 0) ++ [59]
def z_x1 (A : z_A) : Nat → List Int
  | 0 => z_x0 A
  | k + 1 => z_x1 A k ++ z_str 17 ++ z_nl (A 9 ((k : Int) + 1)) ++ [59]
def z_x2 (A : z_A) : Nat → List Int
  | 0 => z_x1 A (A 1 0 - 1).toNat
  | k + 1 => z_xg A (k : Int) (z_x2 A k)
def z_xp (A : z_A) (e : Int) (L : List Int) : List Int := if A 8 e = -1 then L else L ++ z_str 18 ++ z_nl (A 9 e) ++ [32] ++ z_dl (A 8 e) ++ [59]
def z_x3 (A : z_A) : Nat → List Int
  | 0 => z_x2 A (A 2 0).toNat
  | k + 1 => z_xp A ((k : Int) + 1) (z_x3 A k)
theorem z_x1_len {A : z_A} : ∀ k : Nat, (z_x1 A k).length ≤ 8 + 12 * k
  | 0 => by
    have := z_dl_len (A 0 0)
    have := z_str_len.1
    show (z_str 16 ++ z_dl (A 0 0) ++ [59]).length ≤ _
    rw [z_l1, List.length_append]
    omega
  | k + 1 => by
    have := z_x1_len (A := A) k
    have := (z_nl_len (A 9 ((k : Int) + 1))).2
    have := z_str_len.2.1
    rw [z_x1, z_l1, List.length_append, List.length_append]
    omega
theorem z_xg_len {A : z_A} {g : Int} {L : List Int} : (z_xg A g L).length ≤ L.length + 30 := by
  have h1 := (z_nl_len (A 9 (A 3 g))).2
  have h2 := (z_nl_len (A 9 (A 4 g))).2
  have h3 := z_dl_len (A 6 g)
  obtain ⟨-, -, -, s19, s20, s21, s22⟩ := z_str_len
  unfold z_xg
  (repeat' split) <;> simp only [List.length_append, z_l1] <;> simp only [List.length_cons, List.length_nil] <;> omega
theorem z_x2_len {A : z_A} (hA : z_okg A) : ∀ k : Nat, (z_x2 A k).length ≤ 116 + 30 * k
  | 0 => by
    have := z_x1_len (A := A) (A 1 0 - 1).toNat
    have := hA.2.1
    rw [z_x2]
    omega
  | k + 1 => by
    have := z_x2_len hA k
    have := z_xg_len (A := A) (g := (k : Int)) (L := z_x2 A k)
    rw [z_x2]
    omega
theorem z_xp_len {A : z_A} {e : Int} {L : List Int} : (z_xp A e L).length ≤ L.length + 14 := by
  have h1 := (z_nl_len (A 9 e)).2
  have h3 := z_dl_len (A 8 e)
  obtain ⟨-, -, s18, -⟩ := z_str_len
  unfold z_xp
  split
  · omega
  · rw [z_l1, List.length_append, z_l1, List.length_append, List.length_append]
    omega
theorem z_x3_len {A : z_A} (hA : z_okg A) : ∀ k : Nat, (z_x3 A k).length ≤ 836 + 14 * k
  | 0 => by
    have := z_x2_len hA (A 2 0).toNat
    have := hA.2.2.1
    rw [z_x3]
    omega
  | k + 1 => by
    have := z_x3_len hA k
    have := z_xp_len (A := A) (e := (k : Int) + 1) (L := z_x3 A k)
    rw [z_x3]
    omega
theorem z_x1_s {A : z_A} {i : Int} (i0 : 1 ≤ i) : z_x1 A (i + 1 - 1).toNat = z_x1 A (i - 1).toNat ++ z_str 17 ++ z_nl (A 9 i) ++ [59] := by
  rw [show (i + 1 - 1).toNat = (i - 1).toNat + 1 by omega, z_x1, show (((i - 1).toNat : Nat) : Int) + 1 = i by omega]
theorem z_x2_s {A : z_A} {i : Int} (i0 : 0 ≤ i) : z_x2 A (i + 1).toNat = z_xg A i (z_x2 A i.toNat) := by
  rw [show (i + 1).toNat = i.toNat + 1 by omega, z_x2, show ((i.toNat : Nat) : Int) = i by omega]
theorem z_x3_s {A : z_A} {i : Int} (i0 : 1 ≤ i) : z_x3 A (i + 1 - 1).toNat = z_xp A i (z_x3 A (i - 1).toNat) := by
  rw [show (i + 1 - 1).toNat = (i - 1).toNat + 1 by omega, z_x3, show (((i - 1).toNat : Nat) : Int) + 1 = i by omega]
theorem z_nm.fcx {w w' : z_Mm} {e v : Int} (h : z_nm w 1 e v) (f : z_fcx w w') : z_nm w' 1 e v := by
  obtain ⟨c, c1, c2, c3, c4, c5⟩ := h
  exact ⟨c, c1, c2, by rw [f _ (by omega) (by omega)]; exact c3, fun j j0 j1 => by rw [f _ (by omega) (by omega)]; exact c4 j j0 j1, by rw [f _ (by omega) (by omega)]; exact c5⟩
theorem c_putGap {sh : List z_C} {w : z_Mm} {A : z_A} {L : List Int} {g : Int} {K : z_Mm → Prop} (hT : z_isTG sh 0) (hA : z_okg A) (hp : z_pr w 1 A) (h : z_tcx w L) (hl : L.length + 40 ≤ 1024) (g0 : 0 ≤ g) (g1 : g < A 2 0) (k : ∀ w', z_tcx w' (z_xg A g L) → z_fcx w w' → K w') : z_CV mX7_putGap [z_r 159, z_r 1, z_i g] sh w K := by
  have hX : z_isTex sh 159 := hT.2.2.2.2.2.2.2.2
  have hP : z_isPla sh 1 := hT.2.1
  have r1 := hA.2.1
  have r2 := hA.2.2.1
  obtain ⟨b1, b2, b3, b4, b5, b6⟩ := hA.2.2.2.1 g g0 g1
  obtain ⟨v4, v5, v6, v7, v8⟩ := hp.1.2.2.2.1 g g0 g1
  have h1 := (z_nl_len (A 9 (A 3 g))).2
  have h2 := (z_nl_len (A 9 (A 4 g))).2
  have h3 := z_dl_len (A 6 g)
  obtain ⟨-, -, -, s19, s20, s21, s22⟩ := z_str_len
  have gg : 0 ≤ g ∧ g < 24 := ⟨g0, by omega⟩
  unfold z_xg at k
  refine z_CVi (t_X7_putGap hX hP ?_)
  refine c_word hT (s := 19) (by omega) h (by omega) (fun w1 h1' f1 => ⟨gg, ?_⟩)
  rw [f1 (1 + 4) (by omega) (by omega), v4]
  have l1 : (L ++ z_str 19).length = L.length + 4 := by rw [List.length_append]; omega
  refine c_name hT h1' (by omega) ⟨b1.1, by omega⟩ ((hp.2.1 _ b1.1 b1.2).fcx f1) (fun w3 h3' f3 => ?_)
  have l3 : (L ++ z_str 19 ++ z_nl (A 9 (A 3 g))).length ≤ L.length + 9 := by rw [List.length_append]; omega
  refine c_put hT h3' (by omega) (fun w4 h4' f4 => ⟨gg, ?_⟩)
  have g4 := (f1.trans f3).trans f4
  rw [g4 (1 + 5) (by omega) (by omega), v5]
  have l4 : (L ++ z_str 19 ++ z_nl (A 9 (A 3 g)) ++ [32]).length ≤ L.length + 10 := by rw [z_l1]; omega
  refine c_name hT h4' (by omega) ⟨b2.1, by omega⟩ ((hp.2.1 _ b2.1 b2.2).fcx g4) (fun w6 h6' f6 => ⟨gg, ?_⟩)
  have g6 := g4.trans f6
  rw [g6 (1 + 6) (by omega) (by omega), v6]
  have l6 : (L ++ z_str 19 ++ z_nl (A 9 (A 3 g)) ++ [32] ++ z_nl (A 9 (A 4 g))).length ≤ L.length + 15 := by rw [List.length_append]; omega
  have tail : ∀ (w19 : z_Mm) (L9 : List Int), L9.length ≤ L.length + 25 → z_tcx w19 L9 → z_fcx w w19 → (∀ w', z_tcx w' ((if A 7 g = 0 then L9 ++ z_str 22 else L9) ++ [59]) → z_fcx w w' → K w') →
      (0 ≤ g ∧ g < 24) ∧ (((w19 (1 + 8) g) = 0 → z_CV mX7_putWord [z_r 159, z_r (1001 + 22)] sh w19 (fun w23 => z_CV mX7_put [z_r 159, z_i 59] sh w23 (fun w24 => ∃ w' : z_Mm, (none : Option z_V) = none ∧ ((sh, w24) : z_S) = (sh, w') ∧ K w'))) ∧ (¬ (w19 (1 + 8) g) = 0 → z_CV mX7_put [z_r 159, z_i 59] sh w19 (fun w22 => ∃ w' : z_Mm, (none : Option z_V) = none ∧ ((sh, w22) : z_S) = (sh, w') ∧ K w'))) := by
    intro w19 L9 l9 h9 f9 kk
    have e8 : w19 (1 + 8) g = A 7 g := by rw [f9 (1 + 8) (by omega) (by omega)]; exact v8
    refine ⟨gg, fun c => ?_, fun c => ?_⟩
    · rw [if_pos (by omega)] at kk
      exact c_word hT (s := 22) (by omega) h9 (by omega) (fun w23 h23 f23 => c_put hT h23 (by rw [List.length_append]; omega) (fun w24 h24 f24 => ⟨_, rfl, rfl, kk w24 h24 ((f9.trans f23).trans f24)⟩))
    · rw [if_neg (by omega)] at kk
      exact c_put hT h9 (by omega) (fun w22 h22 f22 => ⟨_, rfl, rfl, kk w22 h22 (f9.trans f22)⟩)
  refine ⟨fun c => ?_, fun c => ?_⟩
  · rw [if_pos c] at k
    refine c_word hT (s := 20) (by omega) h6' (by omega) (fun w17 h17 f17 => ⟨gg, ?_⟩)
    have g17 := g6.trans f17
    rw [g17 (1 + 7) (by omega) (by omega), v7]
    refine c_num hT b5 h17 (by rw [List.length_append]; omega) (fun w19 h19 f19 => tail w19 _ (by rw [List.length_append, List.length_append]; omega) h19 (g17.trans f19) k)
  · rw [if_neg c] at k
    refine c_word hT (s := 21) (by omega) h6' (by omega) (fun w17 h17 f17 => ⟨gg, ?_⟩)
    have g17 := g6.trans f17
    rw [g17 (1 + 7) (by omega) (by omega), v7]
    refine c_num hT b5 h17 (by rw [List.length_append]; omega) (fun w19 h19 f19 => tail w19 _ (by rw [List.length_append, List.length_append]; omega) h19 (g17.trans f19) k)
theorem z_pr.fcx {w w' : z_Mm} {A : z_A} (h : z_pr w 1 A) (hA : z_okg A) (f : z_fcx w w') : z_pr w' 1 A := h.fr hA (fun a a0 a1 => f a (by omega) (by omega))
theorem c_writeSetup {sh : List z_C} {w : z_Mm} {A : z_A} {K : z_Mm → Prop} (hT : z_isTG sh 0) (hA : z_ok A) (hp : z_pr w 1 A) (k : ∀ w', z_tcx w' (z_x3 A (A 1 0 - 1).toNat) → z_fcx w w' → K w') : z_CV mX7_writeSetup [z_r 159, z_r 1] sh w K := by
  have hX : z_isTex sh 159 := hT.2.2.2.2.2.2.2.2
  have hP : z_isPla sh 1 := hT.2.1
  have r0 := hA.1.1
  have r1 := hA.1.2.1
  have r2 := hA.1.2.2.1
  obtain ⟨s16, s17, s18, -⟩ := z_str_len
  refine z_CVi (t_X7_writeSetup hX hP (fun w1 e1 => ?_))
  have f1 : z_fcx w w1 := fun a a1 _ => by rw [e1, z_Wf a1]
  have h1 : z_tcx w1 [] := ⟨by rw [e1, z_W_same]; rfl, fun j c hc => by cases hc⟩
  refine c_word hT (s := 16) (by omega) h1 (by show 0 + 7 ≤ _; omega) (fun w2 h2 f2 => ?_)
  have g2 := f1.trans f2
  rw [g2 1 (by omega) (by omega), show w 1 9 = A 0 0 from hp.1.1]
  rw [List.nil_append] at h2
  refine c_num hT ⟨by omega, r0.2⟩ h2 (by omega) (fun w3 h3 f3 => ?_)
  refine c_put hT h3 (by have := z_dl_len (A 0 0); rw [List.length_append]; omega) (fun w4 h4 f4 => ?_)
  have g4 := (g2.trans f3).trans f4
  refine z_for (n := A 1 0) (i0 := 1) (fun i u => z_Sem mX7_writeSetup (sh.length, 0) 27 [(0, z_r 159), (1, z_r 1), (2, z_i i)] [] (sh, u) _) (fun i u => z_tcx u (z_x1 A (i - 1).toNat) ∧ z_fcx w u) (by omega) ⟨by rw [show ((1 : Int) - 1).toNat = 0 from rfl]; exact h4, g4⟩ ?_ ?_
  · rintro u ⟨uh, uf⟩
    have p10 : u 1 10 = A 1 0 := by rw [uf 1 (by omega) (by omega)]; exact hp.1.2.1
    refine t_X7_writeSetup_27 hX hP ⟨fun _ => ?_, fun c => absurd (Int.le_of_eq p10) c⟩
    refine z_for (n := A 2 0) (i0 := 0) (fun i u => z_Sem mX7_writeSetup (sh.length, 0) 61 [(0, z_r 159), (1, z_r 1), (2, z_i i)] [] (sh, u) _) (fun i u => z_tcx u (z_x2 A i.toNat) ∧ z_fcx w u) (by omega) ⟨uh, uf⟩ ?_ ?_
    · rintro v ⟨vh, vf⟩
      have p11 : v 1 11 = A 2 0 := by rw [vf 1 (by omega) (by omega)]; exact hp.1.2.2.1
      refine t_X7_writeSetup_61 hX hP ⟨fun _ => ?_, fun c => absurd (Int.le_of_eq p11) c⟩
      refine z_for (n := A 1 0) (i0 := 1) (fun i u => z_Sem mX7_writeSetup (sh.length, 0) 83 [(0, z_r 159), (1, z_r 1), (2, z_i i)] [] (sh, u) _) (fun i u => z_tcx u (z_x3 A (i - 1).toNat) ∧ z_fcx w u) (by omega) ⟨by rw [show ((1 : Int) - 1).toNat = 0 from rfl]; exact vh, vf⟩ ?_ ?_
      · rintro t ⟨th, tf⟩
        have p10 : t 1 10 = A 1 0 := by rw [tf 1 (by omega) (by omega)]; exact hp.1.2.1
        exact t_X7_writeSetup_83 hX hP ⟨fun _ => ⟨_, rfl, rfl, k t th tf⟩, fun c => absurd (Int.le_of_eq p10) c⟩
      · rintro i t i0 i1 ⟨th, tf⟩ kk
        have p10 : t 1 10 = A 1 0 := by rw [tf 1 (by omega) (by omega)]; exact hp.1.2.1
        have hpt := hp.fcx hA.1 tf
        have ep := z_fipn hpt.1 (e := i) (by omega) i1
        have es := z_x3_s (A := A) i0
        unfold z_xp at es
        have len := z_x3_len hA.1 (i - 1).toNat
        have n1 := (z_nl_len (A 9 i)).2
        have n2 := z_dl_len (A 8 i)
        have r8 := hA.1.2.2.2.2.1 i (by omega) i1
        refine t_X7_writeSetup_83 hX hP ⟨fun c => absurd c (by rw [p10]; omega), fun _ => ⟨⟨⟨by omega, by omega⟩, True.intro⟩, fun c2 => ?_, fun c2 => ?_⟩⟩
        · have hu : A 8 i = -1 := Classical.byContradiction fun q => by rw [ep, if_neg q] at c2; omega
          rw [if_pos hu] at es
          exact ⟨⟨by omega, by omega⟩, kk t ⟨by rw [es]; exact th, tf⟩⟩
        · have hu : ¬ A 8 i = -1 := fun q => by rw [ep, if_pos q] at c2; exact c2 rfl
          rw [if_neg hu] at es
          refine c_word hT (s := 18) (by omega) th (by omega) (fun w5 h5 f5 => ?_)
          have l5 : (z_x3 A (i - 1).toNat ++ z_str 18).length ≤ 840 + 14 * (i - 1).toNat := by rw [List.length_append]; omega
          refine c_name hT h5 (by omega) ⟨by omega, by omega⟩ ((hpt.2.1 i (by omega) i1).fcx f5) (fun w6 h6 f6 => ?_)
          have l6 : (z_x3 A (i - 1).toNat ++ z_str 18 ++ z_nl (A 9 i)).length ≤ 845 + 14 * (i - 1).toNat := by rw [List.length_append]; omega
          refine c_put hT h6 (by omega) (fun w7 h7 f7 => ⟨⟨by omega, by omega⟩, ?_⟩)
          have g7 := ((tf.trans f5).trans f6).trans f7
          rw [g7 (1 + 3) (by omega) (by omega), show w (1 + 3) i = A 8 i from hp.1.2.2.2.2 i (by omega) i1]
          refine c_num hT ⟨by omega, r8.2⟩ h7 (by rw [z_l1]; omega) (fun w9 h9 f9 => ?_)
          exact c_put hT h9 (by rw [List.length_append, z_l1]; omega) (fun w10 h10 f10 => ⟨⟨by omega, by omega⟩, kk w10 ⟨by rw [es]; exact h10, (g7.trans f9).trans f10⟩⟩)
    · rintro i v i0 i1 ⟨vh, vf⟩ kk
      have p11 : v 1 11 = A 2 0 := by rw [vf 1 (by omega) (by omega)]; exact hp.1.2.2.1
      have len := z_x2_len hA.1 i.toNat
      refine t_X7_writeSetup_61 hX hP ⟨fun c => absurd c (by rw [p11]; omega), fun _ => ?_⟩
      exact c_putGap hT hA.1 (hp.fcx hA.1 vf) vh (by omega) i0 i1 (fun w2 h2 f2 => ⟨⟨by omega, by omega⟩, kk w2 ⟨by rw [z_x2_s i0]; exact h2, vf.trans f2⟩⟩)
  · rintro i u i0 i1 ⟨uh, uf⟩ kk
    have p10 : u 1 10 = A 1 0 := by rw [uf 1 (by omega) (by omega)]; exact hp.1.2.1
    have hpu := hp.fcx hA.1 uf
    have len := z_x1_len (A := A) (i - 1).toNat
    have n1 := (z_nl_len (A 9 i)).2
    refine t_X7_writeSetup_27 hX hP ⟨fun c => absurd c (by rw [p10]; omega), fun _ => ?_⟩
    refine c_word hT (s := 17) (by omega) uh (by omega) (fun w2 h2 f2 => ?_)
    refine c_name hT h2 (by rw [List.length_append]; omega) ⟨by omega, by omega⟩ ((hpu.2.1 i (by omega) i1).fcx f2) (fun w3 h3 f3 => ?_)
    exact c_put hT h3 (by rw [List.length_append, List.length_append]; omega) (fun w4 h4 f4 => ⟨⟨by omega, by omega⟩, kk w4 ⟨by rw [z_x1_s i0]; exact h4, ((uf.trans f2).trans f3).trans f4⟩⟩)
/-! the reference -/
theorem z_app {L a b c : List Int} (h : a = b ++ c) : L ++ a = L ++ b ++ c := by rw [h, List.append_assoc]
theorem z_x3_le {A : z_A} (hA : z_okg A) : (z_x3 A (A 1 0 - 1).toNat).length ≤ 962 := by
  have := z_x3_len hA (A 1 0 - 1).toNat
  have := hA.2.1
  omega
theorem c_setupLength {sh : List z_C} {w : z_Mm} {A : z_A} {H : List z_A} {K : Int → z_Mm → Prop} (hT : z_isTG sh 0) (hs : z_cs w A H) (k : ∀ w', z_fcx w w' → K ((z_x3 A (A 1 0 - 1).toNat).length : Int) w') : z_CI mX8_setupLength [z_r 0] sh w K := by
  obtain ⟨hA, hp, hn, -, -⟩ := hs
  refine z_CIi (t_X8_setupLength hT (c_writeSetup hT hA hp (fun w1 h1 f1 => ?_)))
  rw [h1.1]
  exact ⟨_, _, rfl, rfl, k w1 f1⟩
theorem c_setupByte {sh : List z_C} {w : z_Mm} {A : z_A} {H : List z_A} {i : Int} {K : Int → z_Mm → Prop} (hT : z_isTG sh 0) (hs : z_cs w A H) (k : ∀ w', z_fcx w w' → K (z_tb3 (z_x3 A (A 1 0 - 1).toNat) i) w') : z_CI mX8_setupByte [z_r 0, z_i i] sh w K := by
  obtain ⟨hA, hp, hn, -, -⟩ := hs
  have len := z_x3_le hA.1
  refine z_CIi (t_X8_setupByte hT ⟨fun c => c_writeSetup hT hA hp (fun w1 h1 f1 => ?_), fun c => ?_⟩)
  · obtain ⟨a1, a2⟩ := z_tcx_at h1 (by omega) c
    rw [a1]
    exact ⟨a2, _, _, rfl, rfl, k w1 f1⟩
  · unfold z_tb3 at k
    rw [if_neg c] at k
    exact ⟨_, _, rfl, rfl, k w z_fcx.rf⟩
