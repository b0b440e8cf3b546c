/-! THE REFERENCE'S BOUNDS: steps at 168 .. 171 (their number at 161, 13), bounds at 172 -/
theorem z_fbo (w : z_Mm) (a b : Int) : f_X9_boundOf w a b = z_mx w 172 a b := by
  unfold f_X9_boundOf f_X9_pair
  show w 172 _ = w 172 _
  congr 1
  omega
theorem z_spa {w : z_Mm} {a b : Int} (ha : z_bl 10 a) (hb : z_bl 10 b) : s_X9_pair w a b := by
  have := ha.1
  have := ha.2
  have := hb.1
  have := hb.2
  exact ⟨⟨by omega, by omega⟩, ⟨by omega, by omega⟩, True.intro⟩
theorem z_sbo {w : z_Mm} {a b : Int} (ha : z_bl 10 a) (hb : z_bl 10 b) : s_X9_boundOf w a b := by
  have := ha.1
  have := ha.2
  have := hb.1
  have := hb.2
  unfold s_X9_boundOf f_X9_pair
  exact ⟨z_spa ha hb, ⟨by omega, by omega⟩, True.intro⟩
/-- a plan in a row of the reference's numbers -/
def z_mg (f : Int → Int) (A : z_A) : Prop := f 0 = A 0 0 ∧ f 1 = A 1 0 ∧ f 2 = A 2 0 ∧
  (∀ g : Int, 0 ≤ g → g < A 2 0 → f (13 + 5 * g + 0) = A 3 g ∧ f (13 + 5 * g + 1) = A 4 g ∧ f (13 + 5 * g + 2) = A 5 g ∧ f (13 + 5 * g + 3) = A 6 g ∧ f (13 + 5 * g + 4) = A 7 g) ∧
  (∀ e : Int, 0 ≤ e → e < A 1 0 → f (133 + e) = A 8 e + 1)
/-- only the steps and the bounds are touched -/
def z_frL (w w' : z_Mm) : Prop := (∀ a : Nat, a ≠ 161 → (a < 168 ∨ 172 < a) → w' a = w a) ∧ ∀ j : Int, j ≠ 13 → w' 161 j = w 161 j
theorem z_frL.trans {w w1 w2 : z_Mm} (h1 : z_frL w w1) (h2 : z_frL w1 w2) : z_frL w w2 := ⟨fun a h h' => (h2.1 a h h').trans (h1.1 a h h'), fun j h => (h2.2 j h).trans (h1.2 j h)⟩
theorem z_frL.rf {w : z_Mm} : z_frL w w := ⟨fun _ _ _ => rfl, fun _ _ => rfl⟩
theorem z_frLW {w : z_Mm} {b : Nat} {i x : Int} (h : 168 ≤ b ∧ b ≤ 172) : z_frL w (z_W w b i x) := ⟨fun a h1 h2 => z_Wf (by omega), fun j _ => z_W_ne (Or.inl (by omega))⟩
theorem z_frLW1 {w : z_Mm} {x : Int} : z_frL w (z_W w 161 13 x) := ⟨fun a h1 _ => z_Wf h1, fun j h => z_W_ne (Or.inr h)⟩
theorem m_laysStep {sh : List z_C} {w : z_Mm} {K : z_Mm → Prop} {b f n c : Int} (hM : z_isMod sh 161) (l : z_E) (h5 : w 161 13 = (l.length : Int)) (hm : z_mt w 167 l) (hl : l.length < 60)
    (k : ∀ w', w' 161 13 = ((l ++ [(b, f, n, c)]).length : Int) → z_mt w' 167 (l ++ [(b, f, n, c)]) → z_frL w w' → K w') : z_CV mX9_laysStep [z_r 161, z_i b, z_i f, z_i n, z_i c] sh w K := by
  refine z_CVi (t_X9_laysStep hM ⟨⟨by omega, by omega⟩, ?_⟩)
  intro w2 e2
  have a2 : w2 161 13 = (l.length : Int) := by rw [e2, z_W_ne (Or.inl (by omega)), h5]
  refine ⟨⟨by omega, by omega⟩, fun w4 e4 => ?_⟩
  have a4 : w4 161 13 = (l.length : Int) := by rw [e4, z_W_ne (Or.inl (by omega)), a2]
  refine ⟨⟨by omega, by omega⟩, fun w6 e6 => ?_⟩
  have a6 : w6 161 13 = (l.length : Int) := by rw [e6, z_W_ne (Or.inl (by omega)), a4]
  refine ⟨⟨by omega, by omega⟩, fun w8 e8 => ?_⟩
  have a8 : w8 161 13 = (l.length : Int) := by rw [e8, z_W_ne (Or.inl (by omega)), a6]
  refine ⟨⟨by omega, by omega⟩, fun w11 e11 => ?_⟩
  rw [h5] at e2
  rw [a2] at e4
  rw [a4] at e6
  rw [a6] at e8
  rw [a8] at e11
  refine ⟨w11, rfl, rfl, k w11 ?_ ?_ ?_⟩
  · rw [e11, z_W_same]; simp
  · intro j q hq
    have hne : ∀ i : Nat, i ≠ 161 → w11 i = w8 i := fun i hi => by rw [e11]; exact z_Wf hi
    rw [hne _ (by omega), hne _ (by omega), hne _ (by omega), hne _ (by omega)]
    by_cases hj : j < l.length
    · rw [List.getElem?_append_left hj] at hq
      obtain ⟨g1, g2, g3, g4⟩ := hm j q hq
      have nj : (j : Int) ≠ (l.length : Int) := by omega
      rw [e8, z_W_ne (Or.inl (by omega)), z_W_ne (Or.inl (by omega)), z_W_ne (Or.inl (by omega)), z_W_ne (Or.inr nj), e6, z_W_ne (Or.inl (by omega)), z_W_ne (Or.inl (by omega)), z_W_ne (Or.inr nj), z_W_ne (Or.inl (by omega)), e4, z_W_ne (Or.inl (by omega)), z_W_ne (Or.inr nj), z_W_ne (Or.inl (by omega)), z_W_ne (Or.inl (by omega)), e2, z_W_ne (Or.inr nj), z_W_ne (Or.inl (by omega)), z_W_ne (Or.inl (by omega)), z_W_ne (Or.inl (by omega))]
      exact ⟨g1, g2, g3, g4⟩
    · rw [List.getElem?_append_right (by omega)] at hq
      have hz : j - l.length < 1 := (List.getElem?_eq_some_iff.mp hq).1
      have : j = l.length := by omega
      subst this
      rw [Nat.sub_self] at hq
      cases hq
      rw [e8, z_W_ne (Or.inl (by omega)), z_W_ne (Or.inl (by omega)), z_W_ne (Or.inl (by omega)), z_W_same, e6, z_W_ne (Or.inl (by omega)), z_W_ne (Or.inl (by omega)), z_W_same, e4, z_W_ne (Or.inl (by omega)), z_W_same, e2, z_W_same]
      exact ⟨rfl, rfl, rfl, rfl⟩
  · rw [e11, e8, e6, e4, e2]
    exact ((((z_frLW (by omega)).trans (z_frLW (by omega))).trans (z_frLW (by omega))).trans (z_frLW (by omega))).trans z_frLW1
theorem z_sof {w : z_Mm} {g k : Int} (hg : 0 ≤ g ∧ g < 24) (hk : 0 ≤ k ∧ k ≤ 4) : s_X9_of w g k := by
  exact ⟨⟨by omega, by omega⟩, ⟨by omega, by omega⟩, ⟨by omega, by omega⟩, ⟨by omega, by omega⟩, True.intro⟩
section ZGAP
variable {w : z_Mm} {A : z_A} {g : Int}
theorem z_fof (hm : z_mg (w 163) A) (g0 : 0 ≤ g) (g1 : g < A 2 0) : f_X9_of w g 0 = A 3 g ∧ f_X9_of w g 1 = A 4 g ∧ f_X9_of w g 2 = A 5 g ∧ f_X9_of w g 3 = A 6 g ∧ f_X9_of w g 4 = A 7 g := hm.2.2.2.1 g g0 g1
theorem z_fon (hA : z_okg A) (hm : z_mg (w 163) A) (g0 : 0 ≤ g) (g1 : g < A 2 0) : f_X9_isOn w g = A 7 g := by
  obtain ⟨-, -, -, -, -, r7⟩ := hA.2.2.2.1 g g0 g1
  unfold f_X9_isOn
  rw [(z_fof hm g0 g1).2.2.2.2]
  split <;> omega
theorem z_ffr (hm : z_mg (w 163) A) (g0 : 0 ≤ g) (g1 : g < A 2 0) : f_X9_fromOf w g = (z_gs A g).1 := by
  obtain ⟨h0, h1, h2, -⟩ := z_fof hm g0 g1
  unfold f_X9_fromOf
  rw [h2]
  show _ = if A 5 g = 0 then A 3 g else A 4 g
  by_cases c : A 5 g = 0
  · rw [if_pos c, if_pos c, h0]
  · rw [if_neg c, if_neg c, h1]
theorem z_fto (hm : z_mg (w 163) A) (g0 : 0 ≤ g) (g1 : g < A 2 0) : f_X9_toOf w g = (z_gs A g).2.1 := by
  obtain ⟨h0, h1, h2, -⟩ := z_fof hm g0 g1
  unfold f_X9_toOf
  rw [h2]
  show _ = if A 5 g = 0 then A 4 g else A 3 g
  by_cases c : A 5 g = 0
  · rw [if_pos c, if_pos c, h1]
  · rw [if_neg c, if_neg c, h0]
theorem z_fle (hm : z_mg (w 163) A) (g0 : 0 ≤ g) (g1 : g < A 2 0) : f_X9_lengthOf w g = (z_gs A g).2.2.1 := by
  obtain ⟨-, -, h2, h3, -⟩ := z_fof hm g0 g1
  unfold f_X9_lengthOf
  rw [h2, h3]
  rfl
theorem z_son (hA : z_okg A) (g0 : 0 ≤ g) (g1 : g < A 2 0) : s_X9_isOn w g := by
  have := hA.2.2.1
  exact ⟨z_sof ⟨g0, by omega⟩ ⟨by omega, by omega⟩, True.intro⟩
theorem z_sfr (hA : z_okg A) (g0 : 0 ≤ g) (g1 : g < A 2 0) : s_X9_fromOf w g := by
  have := hA.2.2.1
  refine ⟨z_sof ⟨g0, by omega⟩ ⟨by omega, by omega⟩, z_sof ⟨g0, by omega⟩ ?_, True.intro⟩
  split <;> omega
theorem z_sto (hA : z_okg A) (g0 : 0 ≤ g) (g1 : g < A 2 0) : s_X9_toOf w g := by
  have := hA.2.2.1
  refine ⟨z_sof ⟨g0, by omega⟩ ⟨by omega, by omega⟩, z_sof ⟨g0, by omega⟩ ?_, True.intro⟩
  split <;> omega
theorem z_sle (hA : z_okg A) (hm : z_mg (w 163) A) (g0 : 0 ≤ g) (g1 : g < A 2 0) : s_X9_lengthOf w g := by
  have := hA.2.2.1
  obtain ⟨-, -, -, -, r6, -⟩ := hA.2.2.2.1 g g0 g1
  refine ⟨z_sof ⟨g0, by omega⟩ ⟨by omega, by omega⟩, fun _ => ⟨z_sof ⟨g0, by omega⟩ ⟨by omega, by omega⟩, True.intro⟩, fun _ => ⟨z_sof ⟨g0, by omega⟩ ⟨by omega, by omega⟩, ?_, True.intro⟩, True.intro⟩
  rw [(z_fof hm g0 g1).2.2.2.1]
  constructor <;> omega
end ZGAP
theorem z_mg.frL {w w' : z_Mm} {A : z_A} (h : z_mg (w 163) A) (hf : z_frL w w') : z_mg (w' 163) A := by rw [hf.1 163 (by omega) (by omega)]; exact h
theorem m_laysSteps {sh : List z_C} {w : z_Mm} {A : z_A} {K : z_Mm → Prop} (hM : z_isMod sh 161) (hA : z_okg A) (hm : z_mg (w 163) A)
    (k : ∀ w', w' 161 13 = ((z_Sx A (-1)).length : Int) → z_mt w' 167 (z_Sx A (-1)) → z_frL w w' → K w') : z_CV mX9_laysSteps [z_r 161] sh w K := by
  obtain ⟨hE, hn, hg, hgap, hpin, hp0⟩ := id hA
  have L1 := z_S1_len A (-1)
  have L2 := z_S2_len A
  have L3 := z_S3_len A
  refine z_CVi (t_X9_laysSteps hM ?_)
  intro w1 e1
  have f1 : z_frL w w1 := by rw [e1]; exact z_frLW1
  refine z_for (n := A 2 0) (i0 := 0) (fun i v => z_Sem mX9_laysSteps (sh.length, 0) 7 [(0, z_r 161), (1, z_i i)] [] (sh, v) _)
    (fun i v => v 161 13 = ((z_S1 A (-1) i.toNat).length : Int) ∧ z_mt v 167 (z_S1 A (-1) i.toNat) ∧ z_frL w v) (by omega) ⟨by rw [e1, z_W_same]; rfl, (fun j q hq => by cases hq), f1⟩ ?_ ?_
  · rintro v ⟨v5, vm, vf⟩
    have hpv := hm.frL vf
    refine t_X9_laysSteps_7 hM ⟨fun _ => ?_, fun c => absurd (Int.le_of_eq hpv.2.2.1) c⟩
    refine z_for (n := A 1 0) (i0 := 1) (fun i v => z_Sem mX9_laysSteps (sh.length, 0) 53 [(0, z_r 161), (1, z_i i)] [] (sh, v) _)
      (fun i v => v 161 13 = ((z_S1 A (-1) (A 2 0).toNat ++ z_S2 A (i - 1).toNat).length : Int) ∧ z_mt v 167 (z_S1 A (-1) (A 2 0).toNat ++ z_S2 A (i - 1).toNat) ∧ z_frL w v) (by omega) ⟨by simpa [z_S2] using v5, by simpa [z_S2] using vm, vf⟩ ?_ ?_
    · rintro v ⟨v5, vm, vf⟩
      have hpv := hm.frL vf
      refine t_X9_laysSteps_53 hM ⟨fun _ => ?_, fun c => absurd (Int.le_of_eq hpv.2.1) c⟩
      refine z_for (n := A 1 0) (i0 := 1) (fun i v => z_Sem mX9_laysSteps (sh.length, 0) 99 [(0, z_r 161), (1, z_i i)] [] (sh, v) _)
        (fun i v => v 161 13 = ((z_S1 A (-1) (A 2 0).toNat ++ z_S2 A (A 1 0 - 1).toNat ++ z_S3 A (i - 1).toNat).length : Int) ∧ z_mt v 167 (z_S1 A (-1) (A 2 0).toNat ++ z_S2 A (A 1 0 - 1).toNat ++ z_S3 A (i - 1).toNat) ∧ z_frL w v) (by omega) ⟨by simpa [z_S3] using v5, by simpa [z_S3] using vm, vf⟩ ?_ ?_
      · rintro v ⟨v5, vm, vf⟩
        have hpv := hm.frL vf
        refine t_X9_laysSteps_99 hM ⟨fun _ => ⟨v, rfl, rfl, k v v5 vm vf⟩, fun c => absurd (Int.le_of_eq hpv.2.1) c⟩
      · rintro i v i0 i1 ⟨v5, vm, vf⟩ kk
        have hpv := hm.frL vf
        have hpi := hpv.2.2.2.2 i (by omega) i1
        have ei : (i + 1 - 1).toNat = (i - 1).toNat + 1 := by omega
        have ej : (((i - 1).toNat : Nat) : Int) + 1 = i := by omega
        have l1 := L1 (A 2 0).toNat
        have l2 := L2 (A 1 0 - 1).toNat
        have l3 := L3 (i - 1).toNat
        rw [ei] at kk
        simp only [z_S3, ej] at kk
        have hb := hpin i (by omega) i1
        have hv1 := hpv.2.1
        refine t_X9_laysSteps_99 hM ⟨fun c => absurd c (by omega), fun _ => ⟨⟨⟨by omega, by omega⟩, ⟨by omega, by omega⟩, True.intro⟩, fun c => ?_, fun c => ?_⟩⟩
        · have hc : A 8 i = -1 := by
            unfold f_X9_isPinned at c
            rw [hpi] at c
            split at c
            · omega
            · cases c
          refine ⟨⟨by omega, by omega⟩, kk v ?_⟩
          rw [if_pos hc, List.append_nil]
          exact ⟨v5, vm, vf⟩
        · have hc : ¬ A 8 i = -1 := by
            unfold f_X9_isPinned at c
            rw [hpi] at c
            intro q
            rw [if_pos (by omega)] at c
            exact c rfl
          rw [if_neg hc] at kk
          refine ⟨⟨by omega, by omega⟩, ⟨by omega, by omega⟩, ⟨by omega, by omega⟩, ⟨by omega, by omega⟩, ?_⟩
          rw [hpi, show A 8 i + 1 - 1 = A 8 i by omega]
          refine m_laysStep hM _ v5 vm (by simp only [List.length_append]; omega) (fun v7 a5 am af => ?_)
          have hpi7 : v7 163 (133 + i) = A 8 i + 1 := by rw [af.1 163 (by omega) (by omega)]; exact hpi
          refine ⟨⟨by omega, by omega⟩, ⟨by omega, by omega⟩, by rw [hpi7]; constructor <;> omega, ⟨by omega, by omega⟩, ?_⟩
          rw [hpi7, show 1 - (A 8 i + 1) = - A 8 i by omega]
          refine m_laysStep hM _ a5 am (by simp only [List.length_append, List.length_cons, List.length_nil]; omega) (fun v11 b5 bm bf => ?_)
          refine ⟨⟨by omega, by omega⟩, kk v11 ⟨?_, ?_, (vf.trans af).trans bf⟩⟩
          · simpa using b5
          · simpa using bm
    · rintro i v i0 i1 ⟨v5, vm, vf⟩ kk
      have hpv := hm.frL vf
      have ei : (i + 1 - 1).toNat = (i - 1).toNat + 1 := by omega
      have ej : (((i - 1).toNat : Nat) : Int) + 1 = i := by omega
      have l1 := L1 (A 2 0).toNat
      have l2 := L2 (i - 1).toNat
      have hv1 := hpv.2.1
      rw [ei] at kk
      simp only [z_S2, ej] at kk
      refine t_X9_laysSteps_53 hM ⟨fun c => absurd c (by omega), fun _ => ⟨⟨by omega, by omega⟩, ?_⟩⟩
      rw [hpv.1]
      refine m_laysStep hM _ v5 vm (by simp only [List.length_append]; omega) (fun v7 a5 am af => ?_)
      refine ⟨⟨by omega, by omega⟩, ?_⟩
      refine m_laysStep hM _ a5 am (by simp only [List.length_append, List.length_cons, List.length_nil]; omega) (fun v11 b5 bm bf => ?_)
      refine ⟨⟨by omega, by omega⟩, kk v11 ⟨?_, ?_, (vf.trans af).trans bf⟩⟩
      · simpa using b5
      · simpa using bm
  · rintro i v i0 i1 ⟨v5, vm, vf⟩ kk
    have hpv := hm.frL vf
    have ei : (i + 1).toNat = i.toNat + 1 := by omega
    have ej : ((i.toNat : Nat) : Int) = i := by omega
    have l1 := L1 i.toNat
    have hv2 := hpv.2.2.1
    rw [ei] at kk
    simp only [z_S1, ej] at kk
    refine t_X9_laysSteps_7 hM ⟨fun c => absurd c (by omega), fun _ => ⟨z_son hA i0 i1, fun c => ?_, fun c => ?_⟩⟩
    · rw [z_fon hA hpv i0 i1] at c
      refine ⟨⟨by omega, by omega⟩, kk v ?_⟩
      rw [if_pos (Or.inl c), List.append_nil]
      exact ⟨v5, vm, vf⟩
    · rw [z_fon hA hpv i0 i1] at c
      rw [if_neg (by rintro (q | q); exact c q; omega)] at kk
      refine ⟨z_sfr hA i0 i1, z_sto hA i0 i1, z_sle hA hpv i0 i1, ?_⟩
      rw [z_ffr hpv i0 i1, z_fto hpv i0 i1, z_fle hpv i0 i1]
      refine m_laysStep hM _ v5 vm (by omega) (fun v7 a5 am af => ?_)
      exact ⟨⟨by omega, by omega⟩, kk v7 ⟨a5, am, vf.trans af⟩⟩
