/-! THE LIST TEXT -/
noncomputable def z_xe (A : z_A) (e : Int) (L : List Int) : List Int :=
  (if A 8 e = -1 then (if z_dd A (-1) 0 e = - z_dd A (-1) e 0 then (L ++ z_nl (A 9 e) ++ [32] ++ z_dl (- z_dd A (-1) e 0)) else (L ++ z_nl (A 9 e) ++ [32] ++ z_dl (- z_dd A (-1) e 0) ++ [45] ++ z_dl (z_dd A (-1) 0 e)))
    else (if z_dd A (-1) 0 e = - z_dd A (-1) e 0 then (L ++ z_nl (A 9 e) ++ [32] ++ z_dl (- z_dd A (-1) e 0)) else (L ++ z_nl (A 9 e) ++ [32] ++ z_dl (- z_dd A (-1) e 0) ++ [45] ++ z_dl (z_dd A (-1) 0 e))) ++ [33]) ++ [10]
noncomputable def z_xl (A : z_A) : Nat → List Int
  | 0 => []
  | k + 1 => z_xe A (k : Int) (z_xl A k)
theorem z_l1 {L : List Int} {b : Int} : (L ++ [b]).length = L.length + 1 := by rw [List.length_append]; rfl
theorem z_xe_len {A : z_A} {e : Int} {L : List Int} : (z_xe A e L).length ≤ L.length + 15 := by
  have h1 := (z_nl_len (A 9 e)).2
  have h2 := z_dl_len (- z_dd A (-1) e 0)
  have h3 := z_dl_len (z_dd A (-1) 0 e)
  unfold z_xe
  (repeat' split) <;> simp only [List.length_append, z_l1] <;> simp only [List.length_cons, List.length_nil] <;> omega
theorem z_xl_len {A : z_A} : ∀ k : Nat, (z_xl A k).length ≤ 15 * k
  | 0 => Nat.le_refl _
  | k + 1 => by
    have := z_xl_len (A := A) k
    have := z_xe_len (A := A) (e := (k : Int)) (L := z_xl A k)
    rw [z_xl]
    omega
theorem z_xl_s {A : z_A} {i : Int} (i0 : 0 ≤ i) : z_xl A (i + 1).toNat = z_xe A i (z_xl A i.toNat) := by
  rw [show (i + 1).toNat = i.toNat + 1 by omega, z_xl, show ((i.toNat : Nat) : Int) = i by omega]
theorem c_writeList {sh : List z_C} {w : z_Mm} {A : z_A} {K : z_Mm → Prop} (hT : z_isTG sh 0) (hA : z_ok A) (hp : z_pr w 1 A) (hn : z_net w 12 A (-1)) (k : ∀ w', z_tcx w' (z_xl A (A 1 0).toNat) → z_fcx w w' → K w') : z_CV mX7_writeList [z_r 159, z_r 1, z_r 12] sh w K := by
  have hX : z_isTex sh 159 := hT.2.2.2.2.2.2.2.2
  have hP : z_isPla sh 1 := hT.2.1
  have hN : z_isNet sh 12 := hT.2.2.1
  have r1 := hA.1.2.1
  have hsv := z_sv_A hA.1 hA.2.1 (-1)
  refine z_CVi (t_X7_writeList hX hP hN (fun w1 e1 => ?_))
  have f1 : z_fcx w w1 := fun a a1 _ => by rw [e1, z_Wf a1]
  refine z_for (n := A 1 0) (i0 := 0) (fun i u => z_Sem mX7_writeList (sh.length, 0) 7 [(0, z_r 159), (1, z_r 1), (2, z_r 12), (3, z_i i)] [] (sh, u) _) (fun i u => z_tcx u (z_xl A i.toNat) ∧ z_fcx w u) (by omega)
    ⟨⟨by rw [e1, z_W_same]; rfl, fun j c hc => by cases hc⟩, f1⟩ ?_ ?_
  · rintro u ⟨uh, uf⟩
    have p10 : u 1 10 = A 1 0 := by rw [uf 1 (by omega) (by omega)]; exact hp.1.2.1
    exact t_X7_writeList_7 hX hP hN ⟨fun _ => ⟨_, rfl, rfl, k u uh uf⟩, fun c => absurd (Int.le_of_eq p10) c⟩
  · rintro i u i0 i1 ⟨uh, uf⟩ kk
    have p10 : u 1 10 = A 1 0 := by rw [uf 1 (by omega) (by omega)]; exact hp.1.2.1
    have hi : z_bl (A 1 0) i := ⟨i0, i1⟩
    have rl := z_el_R hA.1 hA.2.1 hi
    have len := z_xl_len (A := A) i.toNat
    have fe : ∀ v : z_Mm, z_fcx w v → (f_X2_earliest v 12 i = - z_dd A (-1) i 0 ∧ s_X2_earliest v 12 i) ∧ (f_X2_latest v 12 i = z_dd A (-1) 0 i ∧ s_X2_latest v 12 i) ∧ (f_X3_isPinned v 1 i = (if A 8 i = -1 then 0 else 1) ∧ s_X3_isPinned v 1 i) := fun v vf => by
      have hb := hn.1.fr (w' := v) (vf 12 (by omega) (by omega)) (vf 17 (by omega) (by omega))
      have hpv : z_pg v 1 A := hp.1.fr (fun a a0 a1 => vf a (by omega) (by omega))
      exact ⟨⟨z_fea hsv hb hi, z_sea hsv hb hi⟩, ⟨z_fla hsv hb hi, z_sla hsv hb hi⟩, z_fipn hpv i0 i1, ⟨⟨by omega, by omega⟩, True.intro⟩⟩
    refine t_X7_writeList_7 hX hP hN ⟨fun c => absurd c (by rw [p10]; omega), fun _ => ?_⟩
    have hnm : z_nm u 1 i (A 9 i) := by
      obtain ⟨c, c1, c2, c3, c4, c5⟩ := hp.2.1 i i0 i1
      exact ⟨c, c1, c2, by rw [uf _ (by omega) (by omega)]; exact c3, fun j j0 j1 => by rw [uf _ (by omega) (by omega)]; exact c4 j j0 j1, by rw [uf _ (by omega) (by omega)]; exact c5⟩
    have n1 := (z_nl_len (A 9 i)).2
    have n2 := z_dl_len (- z_dd A (-1) i 0)
    have n3 := z_dl_len (z_dd A (-1) 0 i)
    refine c_name hT uh (by omega) ⟨i0, by omega⟩ hnm (fun w2 h2 f2 => ?_)
    refine c_put hT h2 (by rw [List.length_append]; omega) (fun w3 h3 f3 => ?_)
    have g3 := (uf.trans f2).trans f3
    obtain ⟨⟨a1, a2⟩, -, -⟩ := fe w3 g3
    rw [a1]
    refine ⟨a2, c_num hT ⟨rl.1, by omega⟩ h3 (by rw [z_l1, List.length_append]; omega) (fun w5 h5 f5 => ?_)⟩
    have g5 := g3.trans f5
    obtain ⟨⟨b1, b2⟩, ⟨b3, b4⟩, b5, b6⟩ := fe w5 g5
    rw [b1, b3, b5]
    have l5 : (z_xl A i.toNat ++ z_nl (A 9 i) ++ [32] ++ z_dl (- z_dd A (-1) i 0)).length ≤ 15 * i.toNat + 9 := by
      rw [List.length_append, z_l1, List.length_append]; omega
    have es := z_xl_s (A := A) i0
    unfold z_xe at es
    refine ⟨b4, b2, fun c1 => ?_, fun c1 => ?_⟩
    · rw [if_pos c1] at es
      refine ⟨b6, fun c2 => ?_, fun c2 => ?_⟩
      · have hu : A 8 i = -1 := Classical.byContradiction fun q => by rw [if_neg q] at c2; omega
        rw [if_pos hu] at es
        exact c_put hT h5 (by omega) (fun w11 h11 f11 => ⟨⟨by omega, by omega⟩, kk w11 ⟨by rw [es]; exact h11, g5.trans f11⟩⟩)
      · have hu : ¬ A 8 i = -1 := fun q => by rw [if_pos q] at c2; exact c2 rfl
        rw [if_neg hu] at es
        exact c_put hT h5 (by omega) (fun w13 h13 f13 => c_put hT h13 (by rw [z_l1]; omega) (fun w14 h14 f14 => ⟨⟨by omega, by omega⟩, kk w14 ⟨by rw [es]; exact h14, (g5.trans f13).trans f14⟩⟩))
    · rw [if_neg c1] at es
      refine c_put hT h5 (by omega) (fun w16 h16 f16 => ?_)
      have g16 := g5.trans f16
      obtain ⟨-, ⟨d3, d4⟩, -⟩ := fe w16 g16
      rw [d3]
      refine ⟨d4, c_num hT ⟨by omega, rl.2.2⟩ h16 (by rw [z_l1]; omega) (fun w18 h18 f18 => ?_)⟩
      have g18 := g16.trans f18
      obtain ⟨-, -, d5, d6⟩ := fe w18 g18
      rw [d5]
      refine ⟨d6, fun c2 => ?_, fun c2 => ?_⟩
      · have hu : A 8 i = -1 := Classical.byContradiction fun q => by rw [if_neg q] at c2; omega
        rw [if_pos hu] at es
        exact c_put hT h18 (by rw [List.length_append, z_l1]; omega) (fun w21 h21 f21 => ⟨⟨by omega, by omega⟩, kk w21 ⟨by rw [es]; exact h21, g18.trans f21⟩⟩)
      · have hu : ¬ A 8 i = -1 := fun q => by rw [if_pos q] at c2; exact c2 rfl
        rw [if_neg hu] at es
        exact c_put hT h18 (by rw [List.length_append, z_l1]; omega) (fun w23 h23 f23 => c_put hT h23 (by rw [z_l1, List.length_append, z_l1]; omega) (fun w24 h24 f24 => ⟨⟨by omega, by omega⟩, kk w24 ⟨by rw [es]; exact h24, (g18.trans f23).trans f24⟩⟩))
/-- a text's byte -/
def z_tb3 (L : List Int) (i : Int) : Int := if 0 ≤ i then (if (L.length : Int) ≤ i then -2 else (L[i.toNat]?).getD 0) else -1
theorem z_tcx_at {w : z_Mm} {L : List Int} {i : Int} (h : z_tcx w L) (hl : L.length ≤ 1024) (i0 : 0 ≤ i) : f_X7_byteAt w i = z_tb3 L i ∧ s_X7_byteAt w i := by
  obtain ⟨h1, h2⟩ := h
  refine ⟨?_, fun _ => ⟨fun c => ⟨⟨by omega, by omega⟩, True.intro⟩, True.intro⟩, True.intro⟩
  unfold f_X7_byteAt z_tb3
  rw [if_neg (by omega), if_pos i0, h1]
  by_cases c : (L.length : Int) ≤ i
  · rw [if_pos c, if_pos c]
  · rw [if_neg c, if_neg c]
    have hk : L[i.toNat]? = some (L[i.toNat]'(by omega)) := List.getElem?_eq_getElem (by omega)
    have := h2 _ _ hk
    rw [show ((i.toNat : Nat) : Int) = i by omega] at this
    rw [this, hk]
    rfl
theorem z_xl_le {A : z_A} (hA : z_okg A) : (z_xl A (A 1 0).toNat).length ≤ 150 := by
  have := z_xl_len (A := A) (A 1 0).toNat
  have := hA.2.1
  omega
theorem c_listLength {sh : List z_C} {w : z_Mm} {A : z_A} {H : List z_A} {K : Int → z_Mm → Prop} (hT : z_isTG sh 0) (hs : z_cs w A H) (k : ∀ w', z_fcx w w' → K ((z_xl A (A 1 0).toNat).length : Int) w') : z_CI mX8_listLength [z_r 0] sh w K := by
  obtain ⟨hA, hp, hn, -, -⟩ := hs
  refine z_CIi (t_X8_listLength hT (c_writeList hT hA hp hn (fun w1 h1 f1 => ?_)))
  rw [h1.1]
  exact ⟨_, _, rfl, rfl, k w1 f1⟩
theorem c_listByte {sh : List z_C} {w : z_Mm} {A : z_A} {H : List z_A} {i : Int} {K : Int → z_Mm → Prop} (hT : z_isTG sh 0) (hs : z_cs w A H) (k : ∀ w', z_fcx w w' → K (z_tb3 (z_xl A (A 1 0).toNat) i) w') : z_CI mX8_listByte [z_r 0, z_i i] sh w K := by
  obtain ⟨hA, hp, hn, -, -⟩ := hs
  have len := z_xl_le hA.1
  refine z_CIi (t_X8_listByte hT ⟨fun c => c_writeList hT hA hp hn (fun w1 h1 f1 => ?_), fun c => ?_⟩)
  · obtain ⟨a1, a2⟩ := z_tcx_at h1 (by omega) c
    rw [a1]
    exact ⟨a2, _, _, rfl, rfl, k w1 f1⟩
  · unfold z_tb3 at k
    rw [if_neg c] at k
    exact ⟨_, _, rfl, rfl, k w z_fcx.rf⟩
