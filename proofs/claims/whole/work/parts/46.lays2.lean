/-- m: bounds above that begin at the steps, within a million -/
def z_V0 (S : z_E) (n : Int) (m : Int → Int → Int) : Prop :=
  (∀ y, z_Fe S y → ∀ a b, z_bl n a → z_bl n b → y b - y a ≤ m a b) ∧ (∀ a, z_bl n a → m a a ≤ 0) ∧ (∀ q ∈ S, m q.1 q.2.1 ≤ q.2.2.1) ∧ (∀ a b, z_bl n a → z_bl n b → -1000000 ≤ m a b ∧ m a b ≤ 1000000)
def z_neg (n : Int) (m : Int → Int → Int) : Prop := ∃ a, z_bl n a ∧ m a a < 0
def z_good (n i : Int) (m : Int → Int → Int) : Prop := (∀ j, z_bl n j → j < i → z_U n j m) ∧ (∀ a b, z_bl n a → z_bl n b → -500000 ≤ m a b) ∧ (i = 0 → ∀ a b, z_bl n a → z_bl n b → -999 ≤ m a b) ∧ (1 ≤ i → ∀ a b, z_bl n a → z_bl n b → m a b ≤ 999)
/-- behind a phase: a ring denies, or all is well -/
theorem z_phase2 {S : z_E} {n i : Int} {m m' : Int → Int → Int} (hi : z_bl n i) (hV : z_V0 S n m) (hB0 : ∀ a, z_bl n a → m a 0 ≤ 0 ∧ m 0 a ≤ 999) (hg : z_good n i m) (h0 : ¬ z_neg n m) (hm : ∀ a b, z_bl n a → z_bl n b → m' a b = min (m a b) (max (m a i + m i b) (-1000000))) : z_neg n m' ∨ z_good n (i + 1) m' := by
  by_cases hn : z_neg n m'
  · exact Or.inl hn
  right
  obtain ⟨g1, g2, g3, g4⟩ := hg
  have h00 : z_bl n 0 := ⟨by omega, by have := hi.1; have := hi.2; omega⟩
  have hm2 : ∀ a b, z_bl n a → z_bl n b → m' a b = min (m a b) (m a i + m i b) := by
    intro a b ha hb
    rw [hm a b ha hb]
    have := g2 a i ha hi
    have := g2 i b hi hb
    omega
  have hii : 0 ≤ m i i := by
    by_cases c : 0 ≤ m i i
    · exact c
    · exact absurd ⟨i, hi, by omega⟩ h0
  refine ⟨fun j hj hji => z_phase hi hii hm2 hj ?_, fun a b ha hb => ?_, fun c => absurd c (by have := hi.1; omega), fun _ a b ha hb => ?_⟩
  · by_cases e : j = i
    · exact Or.inl e
    · exact Or.inr (g1 j hj (by omega))
  · rw [hm2 a b ha hb]
    have q1 := g2 a b ha hb
    by_cases c0 : i = 0
    · have q2 := g3 c0 a i ha hi
      have q3 := g3 c0 i b hi hb
      omega
    · have q4 := g4 (by have := hi.1; omega) i a hi ha
      have q5 := g4 (by have := hi.1; omega) b i hb hi
      have q6 : ¬ m' a a < 0 := fun h => hn ⟨a, ha, h⟩
      have q7 : ¬ m' b b < 0 := fun h => hn ⟨b, hb, h⟩
      rw [hm2 a a ha ha] at q6
      rw [hm2 b b hb hb] at q7
      omega
  · rw [hm2 a b ha hb]
    by_cases c0 : i = 0
    · subst c0
      have q1 := (hB0 a ha).1
      have q2 := (hB0 b hb).2
      omega
    · have := g4 (by have := hi.1; omega) a b ha hb
      omega
theorem m_lays {sh : List z_C} {w : z_Mm} {A : z_A} {K : Int → z_Mm → Prop} (hM : z_isMod sh 161) (hA : z_okg A) (hm : z_mg (w 163) A)
    (k : ∀ b w', w' 161 13 = ((z_Sx A (-1)).length : Int) → z_mt w' 167 (z_Sx A (-1)) → z_frL w w' → ((b = 1 ∧ z_bears A ∧ z_IsD (z_Sx A (-1)) (A 1 0) (z_mx w' 172)) ∨ (b = 0 ∧ ¬ z_bears A)) → (∀ a c, z_bl (A 1 0) a → z_bl (A 1 0) c → -1000000 ≤ z_mx w' 172 a c ∧ z_mx w' 172 a c ≤ 1000000) → K b w') : z_CI mX9_lays [z_r 161] sh w K := by
  obtain ⟨hE, hn, hg, hgap, hpin, hp0⟩ := id hA
  have hwf := z_Sx_wf hA (-1)
  have hSl := z_Sx_len hA (-1)
  generalize hSe : z_Sx A (-1) = S at k hwf hSl
  generalize hne : A 1 0 = n at k hn hwf
  have hB : ∀ a, z_bl n a → a ≠ 0 → (∃ c, (a, (0 : Int), (0 : Int), c) ∈ S) ∧ ∃ c, ((0 : Int), a, A 0 0, c) ∈ S := by
    intro a ha h0
    rw [← hSe]
    have h1 := ha.1
    have h2 := ha.2
    refine ⟨⟨200 + a, ?_⟩, ⟨100 + a, ?_⟩⟩
    · simp only [z_Sx, List.mem_append]
      exact Or.inl (Or.inr (z_S2_mem.mpr ⟨a, by omega, by omega, Or.inr rfl⟩))
    · simp only [z_Sx, List.mem_append]
      exact Or.inl (Or.inr (z_S2_mem.mpr ⟨a, by omega, by omega, Or.inl rfl⟩))
  have hB0 : ∀ m, z_V0 S n m → ∀ a, z_bl n a → m a 0 ≤ 0 ∧ m 0 a ≤ 999 := by
    intro m hV a ha
    by_cases c : a = 0
    · subst c
      have := hV.2.1 0 ha
      omega
    · obtain ⟨⟨c1, m1⟩, c2, m2⟩ := hB a ha c
      have q1 := hV.2.2.1 _ m1
      have q2 := hV.2.2.1 _ m2
      simp only at q1 q2
      omega
  have hR : ∀ q ∈ S, -999 ≤ q.2.2.1 ∧ q.2.2.1 ≤ 999 := fun q hq => by rw [← hSe] at hq; exact z_Sx_R hA hq
  have hnear : ∀ x, z_Fe S x → ∀ a b, z_bl n a → z_bl n b → x b - x a ≤ 999 := by
    intro x hx a b ha hb
    rw [← hSe] at hx
    rw [← hne] at ha hb
    have := z_F_near hA ((z_F_iff hA).mp hx) ha hb
    omega
  refine z_CIi (t_X9_lays hM ?_)
  refine m_laysSteps hM hA hm (fun w1 a5 am af => ?_)
  rw [hSe] at a5 am
  intro y2 e2
  have ey : y2 = n := by rw [e2, (hm.frL af).2.1, hne]
  subst ey
  -- the frame behind the steps
  refine z_for (n := y2) (i0 := 0) (fun i v => z_Sem mX9_lays (sh.length, 0) 13 [(0, z_r 161), (1, z_i y2), (2, z_i i)] [] (sh, v) _)
    (fun i v => z_frW w1 v 172 ∧ ∀ a b, z_bl y2 a → z_bl y2 b → a < i → z_mx v 172 a b = if a = b then 0 else 1000000) (by omega) ⟨fun _ _ => rfl, fun a b ha _ h => absurd h (by have := ha.1; omega)⟩ ?_ ?_
  · rintro v ⟨vf, vm⟩
    refine t_X9_lays_13 hM ⟨fun _ => ?_, fun c => absurd (Int.le_refl _) c⟩
    refine z_for (n := (S.length : Int)) (i0 := 0) (fun i v => z_Sem mX9_lays (sh.length, 0) 60 [(0, z_r 161), (1, z_i y2), (2, z_i i)] [] (sh, v) _)
      (fun i v => z_frW w1 v 172 ∧ (∀ y, z_Fe S y → ∀ a b, z_bl y2 a → z_bl y2 b → y b - y a ≤ z_mx v 172 a b) ∧ (∀ a, z_bl y2 a → z_mx v 172 a a ≤ 0) ∧ (∀ (j : Nat) q, (j : Int) < i → S[j]? = some q → z_mx v 172 q.1 q.2.1 ≤ q.2.2.1) ∧ (∀ a b, z_bl y2 a → z_bl y2 b → -999 ≤ z_mx v 172 a b ∧ z_mx v 172 a b ≤ 1000000)) (by omega)
      ⟨vf, fun y hy a b ha hb => ?_, fun a ha => ?_, fun j q hj => absurd hj (by omega), fun a b ha hb => ?_⟩ ?_ ?_
    · rw [vm a b ha hb ha.2]
      have := hnear y hy a b ha hb
      split
      · rename_i e; subst e; omega
      · omega
    · rw [vm a a ha ha ha.2, if_pos rfl]; exact Int.le_refl 0
    · rw [vm a b ha hb ha.2]; split <;> decide
    · -- the bounds are laid: the phases
      rintro v ⟨vf, a1, a2, a3, a4⟩
      have v13 : v 161 13 = (S.length : Int) := by rw [vf 161 (by omega)]; exact a5
      refine t_X9_lays_60 hM ⟨fun _ => ?_, fun c => absurd (Int.le_of_eq v13) c⟩
      have hV0 : z_V0 S y2 (z_mx v 172) := ⟨a1, a2, fun q hq => by
        obtain ⟨j, hj⟩ := List.getElem?_of_mem hq
        have := (List.getElem?_eq_some_iff.mp hj).1
        exact a3 j q (by omega) hj, fun a b ha hb => by have := a4 a b ha hb; omega⟩
      refine z_for (n := y2) (i0 := 0) (fun i v => z_Sem mX9_lays (sh.length, 0) 128 [(0, z_r 161), (1, z_i y2), (2, z_i i)] [] (sh, v) _)
        (fun i v => z_frW w1 v 172 ∧ z_V0 S y2 (z_mx v 172) ∧ (z_neg y2 (z_mx v 172) ∨ z_good y2 i (z_mx v 172))) (by omega)
        ⟨vf, hV0, Or.inr ⟨fun j hj h => absurd h (by have := hj.1; omega), fun a b ha hb => by have := a4 a b ha hb; omega, fun _ a b ha hb => (a4 a b ha hb).1, fun h => absurd h (by decide)⟩⟩ ?_ ?_
      · -- whether no ring denies
        rintro v ⟨vf, vV, vN⟩
        refine t_X9_lays_128 hM ⟨fun _ => ?_, fun c => absurd (Int.le_refl _) c⟩
        refine z_forA (n := y2) (i0 := 0) (a0 := (1 : Int)) (fun i x u => z_Sem mX9_lays (sh.length, 0) 238 [(0, z_r 161), (1, z_i y2), (2, z_i x), (3, z_i i)] [] (sh, u) _)
          (fun i x u => u = v ∧ ((x = 1 ∧ ∀ a, z_bl y2 a → a < i → 0 ≤ z_mx v 172 a a) ∨ (x = 0 ∧ z_neg y2 (z_mx v 172)))) (by omega) ⟨rfl, Or.inl ⟨rfl, fun a ha h => absurd h (by have := ha.1; omega)⟩⟩ ?_ ?_
        · rintro x u ⟨rfl, hx⟩
          have hfr : z_frL w u := ⟨fun a h1 h2 => by rw [vf a (by omega)]; exact af.1 a h1 h2, fun j hj => by rw [vf 161 (by omega)]; exact af.2 j hj⟩
          refine t_X9_lays_238 hM ⟨fun _ => ⟨by omega, ⟨x, u, rfl, rfl, k x u (by rw [vf 161 (by omega)]; exact a5) (am.fr (fun a h1 h2 => vf a (by omega))) hfr ?_ vV.2.2.2⟩⟩, fun c => absurd (Int.le_refl _) c⟩
          rcases hx with ⟨rfl, hd⟩ | ⟨rfl, hd⟩
          · left
            have hng : ¬ z_neg y2 (z_mx u 172) := by
              rintro ⟨a, ha, hlt⟩
              have := hd a ha ha.2
              omega
            have hgd := vN.resolve_left hng
            have hD : z_IsD S y2 (z_mx u 172) := z_FWend hwf vV.1 (fun a ha => by have := hd a ha ha.2; have := vV.2.1 a ha; omega) vV.2.2.1 (fun j hj => hgd.1 j hj hj.2)
            refine ⟨rfl, ?_, hD⟩
            obtain ⟨-, x, hx, -⟩ := hD 0 0 ⟨by omega, by omega⟩ ⟨by omega, by omega⟩
            rw [← hSe] at hx
            exact ⟨x, (z_F_iff hA).mp hx⟩
          · right
            refine ⟨rfl, ?_⟩
            rintro ⟨x, hx⟩
            obtain ⟨a, ha, hlt⟩ := hd
            have := vV.1 x (by rw [← hSe]; exact (z_F_iff hA).mpr hx) a a ha ha
            omega
        · rintro i x u i0 i1 ⟨rfl, hx⟩ kk
          have hi : z_bl y2 i := ⟨i0, i1⟩
          refine t_X9_lays_238 hM ⟨fun c => absurd c (by omega), fun _ => ⟨fun _ => ⟨z_sbo ⟨i0, by omega⟩ ⟨i0, by omega⟩, True.intro⟩, fun y13 e13 => ⟨⟨by omega, by omega⟩, kk y13 u ⟨rfl, ?_⟩⟩⟩⟩
          rw [z_fbo] at e13
          rcases hx with ⟨rfl, hd⟩ | ⟨rfl, hd⟩
          · rw [if_neg (by decide)] at e13
            by_cases c : z_mx u 172 i i < 0
            · rw [if_pos c] at e13
              exact Or.inr ⟨e13, i, hi, c⟩
            · rw [if_neg c] at e13
              refine Or.inl ⟨e13, fun a ha h => ?_⟩
              by_cases e : a = i
              · subst e; omega
              · exact hd a ha (by omega)
          · rw [if_pos rfl] at e13
            exact Or.inr ⟨e13, hd⟩
      · -- a phase
        rintro by_ v i0 i1 ⟨vf, vV, vN⟩ kk
        have hby : z_bl y2 by_ := ⟨i0, i1⟩
        refine t_X9_lays_128 hM ⟨fun c => absurd c (by omega), fun _ => ?_⟩
        -- in the phase: V0, never greater; and while no ring denies the cells as they are worked out
        refine z_for (n := y2) (i0 := 0) (fun i u => z_Sem mX9_lays (sh.length, 0) 135 [(0, z_r 161), (1, z_i y2), (2, z_i by_), (3, z_i i)] [] (sh, u) _)
          (fun i u => z_frW w1 u 172 ∧ z_V0 S y2 (z_mx u 172) ∧ (∀ a b, z_bl y2 a → z_bl y2 b → z_mx u 172 a b ≤ z_mx v 172 a b) ∧ (0 ≤ z_mx v 172 by_ by_ → ∀ a b, z_bl y2 a → z_bl y2 b → z_mx u 172 a b = if a < i then min (z_mx v 172 a b) (max (z_mx v 172 a by_ + z_mx v 172 by_ b) (-1000000)) else z_mx v 172 a b)) (by omega)
          ⟨vf, vV, fun _ _ _ _ => Int.le_refl _, fun _ a b ha _ => by rw [if_neg (by have := ha.1; omega)]⟩ ?_ ?_
        · rintro u ⟨uf, uV, ule, um⟩
          refine t_X9_lays_135 hM ⟨fun _ => ⟨⟨by omega, by omega⟩, kk u ⟨uf, uV, ?_⟩⟩, fun c => absurd (Int.le_refl _) c⟩
          have hmono : z_neg y2 (z_mx v 172) → z_neg y2 (z_mx u 172) := by
            rintro ⟨a, ha, hlt⟩
            exact ⟨a, ha, by have := ule a a ha ha; omega⟩
          by_cases hng : z_neg y2 (z_mx v 172)
          · exact Or.inl (hmono hng)
          · have h0 : 0 ≤ z_mx v 172 by_ by_ := by
              by_cases c : 0 ≤ z_mx v 172 by_ by_
              · exact c
              · exact absurd ⟨by_, hby, by omega⟩ hng
            exact z_phase2 hby vV (hB0 _ vV) (vN.resolve_left hng) hng (fun a b ha hb => by rw [um h0 a b ha hb, if_pos ha.2])
        · rintro i u j0 j1 ⟨uf, uV, ule, um⟩ kk
          have hi : z_bl y2 i := ⟨j0, j1⟩
          refine t_X9_lays_135 hM ⟨fun c => absurd c (by omega), fun _ => ?_⟩
          refine z_for (n := y2) (i0 := 0) (fun j t => z_Sem mX9_lays (sh.length, 0) 143 [(0, z_r 161), (1, z_i y2), (2, z_i by_), (3, z_i i), (4, z_i j)] [] (sh, t) _)
            (fun j t => z_frW w1 t 172 ∧ z_V0 S y2 (z_mx t 172) ∧ (∀ a b, z_bl y2 a → z_bl y2 b → z_mx t 172 a b ≤ z_mx v 172 a b) ∧ (0 ≤ z_mx v 172 by_ by_ → ∀ a b, z_bl y2 a → z_bl y2 b → z_mx t 172 a b = if a < i ∨ (a = i ∧ b < j) then min (z_mx v 172 a b) (max (z_mx v 172 a by_ + z_mx v 172 by_ b) (-1000000)) else z_mx v 172 a b)) (by omega)
            ⟨uf, uV, ule, fun h a b ha hb => by
              rw [um h a b ha hb]
              by_cases c : a < i
              · rw [if_pos c, if_pos (Or.inl c)]
              · rw [if_neg c, if_neg (by have := hb.1; omega)]⟩ ?_ ?_
          · rintro t ⟨tf, tV, tle, tm⟩
            refine t_X9_lays_143 hM ⟨fun _ => ⟨⟨by omega, by omega⟩, kk t ⟨tf, tV, tle, fun h a b ha hb => ?_⟩⟩, fun c => absurd (Int.le_refl _) c⟩
            rw [tm h a b ha hb]
            by_cases c : a < i + 1
            · rw [if_pos c, if_pos (by have := hb.2; omega)]
            · rw [if_neg c, if_neg (by omega)]
          · rintro j t k0 k1 ⟨tf, tV, tle, tm⟩ kk
            have hj : z_bl y2 j := ⟨k0, k1⟩
            have r1 := tV.2.2.2 i by_ hi hby
            have r2 := tV.2.2.2 by_ j hby hj
            have r3 := tV.2.2.2 i j hi hj
            refine t_X9_lays_143 hM ⟨fun c => absurd c (by omega), fun _ => ⟨z_sbo ⟨j0, by omega⟩ ⟨i0, by omega⟩, z_sbo ⟨i0, by omega⟩ ⟨k0, by omega⟩, ?_, fun y6 e6 y11 e11 => ⟨z_spa ⟨j0, by omega⟩ ⟨k0, by omega⟩, z_sbo ⟨j0, by omega⟩ ⟨k0, by omega⟩, fun _ => ⟨z_sbo ⟨j0, by omega⟩ ⟨k0, by omega⟩, True.intro⟩, ?_, fun w20 e20 => ⟨⟨by omega, by omega⟩, kk w20 ?_⟩⟩⟩⟩
            · rw [z_fbo, z_fbo]; constructor <;> omega
            · unfold f_X9_pair; omega
            · rw [z_fbo, z_fbo] at e6
              have e11' : y11 = max (z_mx t 172 i by_ + z_mx t 172 by_ j) (-1000000) := by rw [e11, e6]; split <;> omega
              have hmx : ∀ a b, z_bl y2 a → z_bl y2 b → z_mx w20 172 a b = if a = i ∧ b = j then min (z_mx t 172 i j) y11 else z_mx t 172 a b := by
                intro a b ha hb
                rw [e20, z_fbo]
                rw [show f_X9_pair t i j = i * 10 + j by unfold f_X9_pair; omega]
                rw [z_mxW ⟨j0, by omega⟩ ⟨k0, by omega⟩ ⟨ha.1, by have := ha.2; omega⟩ ⟨hb.1, by have := hb.2; omega⟩]
                by_cases e : a = i ∧ b = j
                · rw [if_pos e, if_pos e]; split <;> omega
                · rw [if_neg e, if_neg e]
              refine ⟨tf.trans (by rw [e20]; exact z_frWW), ⟨fun y hy a b ha hb => ?_, fun a ha => ?_, fun q hq => ?_, fun a b ha hb => ?_⟩, fun a b ha hb => ?_, fun h a b ha hb => ?_⟩
              · rw [hmx a b ha hb]
                have q1 := tV.1 y hy a b ha hb
                have q2 := tV.1 y hy i by_ hi hby
                have q3 := tV.1 y hy by_ j hby hj
                have q4 := tV.1 y hy i j hi hj
                split
                · rename_i e; rw [e.1, e.2]; omega
                · exact q1
              · rw [hmx a a ha ha]
                have q1 := tV.2.1 a ha
                split
                · rename_i e
                  obtain ⟨e1, e2⟩ := e
                  rw [← e1, ← e2]; omega
                · exact q1
              · rw [hmx q.1 q.2.1 (hwf q hq).1 (hwf q hq).2]
                have q1 := tV.2.2.1 q hq
                split
                · rename_i e; rw [← e.1, ← e.2]; omega
                · exact q1
              · rw [hmx a b ha hb]
                have q1 := tV.2.2.2 a b ha hb
                split
                · omega
                · exact q1
              · rw [hmx a b ha hb]
                have q1 := tle a b ha hb
                split
                · rename_i e; rw [e.1, e.2] at q1 ⊢; omega
                · exact q1
              · have m0 : z_mx v 172 by_ by_ = 0 := by
                  have := vV.2.1 by_ hby
                  omega
                have s1 : z_mx t 172 i by_ = z_mx v 172 i by_ := by
                  rw [tm h i by_ hi hby]
                  have := vV.2.2.2 i by_ hi hby
                  split
                  · rw [m0]; omega
                  · rfl
                have s2 : z_mx t 172 by_ j = z_mx v 172 by_ j := by
                  rw [tm h by_ j hby hj]
                  have := vV.2.2.2 by_ j hby hj
                  split
                  · rw [m0]; omega
                  · rfl
                have s3 : z_mx t 172 i j = z_mx v 172 i j := by rw [tm h i j hi hj, if_neg (by omega)]
                rw [hmx a b ha hb, e11', s1, s2, s3]
                by_cases e : a = i ∧ b = j
                · obtain ⟨rfl, rfl⟩ := e
                  rw [if_pos ⟨rfl, rfl⟩, if_pos (by omega)]
                · rw [if_neg e, tm h a b ha hb]
                  by_cases c : a < i ∨ (a = i ∧ b < j)
                  · rw [if_pos c, if_pos (by omega)]
                  · rw [if_neg c, if_neg (by omega)]
    · rintro i v i0 i1 ⟨vf, a1, a2, a3, a4⟩ kk
      have v13 : v 161 13 = (S.length : Int) := by rw [vf 161 (by omega)]; exact a5
      have hlt : i.toNat < S.length := by omega
      obtain ⟨q, hq⟩ : ∃ q, S[i.toNat]? = some q := ⟨_, List.getElem?_eq_getElem hlt⟩
      have hmem := List.mem_of_getElem? hq
      obtain ⟨⟨w1', w2⟩, w3, w4⟩ := hwf q hmem
      obtain ⟨r1, r2⟩ := hR q hmem
      obtain ⟨b1, b2, b3, b4⟩ := am i.toNat q hq
      rw [show ((i.toNat : Nat) : Int) = i by omega] at b1 b2 b3 b4
      have c1 : v 168 i = q.1 := by rw [vf 168 (by omega)]; exact b1
      have c2 : v 169 i = q.2.1 := by rw [vf 169 (by omega)]; exact b2
      have c3 : v 170 i = q.2.2.1 := by rw [vf 170 (by omega)]; exact b3
      have hpq : f_X9_pair v q.1 q.2.1 = q.1 * 10 + q.2.1 := by unfold f_X9_pair; omega
      refine t_X9_lays_60 hM ⟨fun c => absurd c (by omega), fun _ => ?_⟩
      rw [c1, c2, c3, hpq]
      refine ⟨⟨by omega, by omega⟩, ⟨by omega, by omega⟩, z_spa ⟨w1', by omega⟩ ⟨w3, by omega⟩, fun y5 e5 => ⟨⟨by omega, by omega⟩, ⟨by omega, by omega⟩, fun _ => ⟨⟨by omega, by omega⟩, True.intro⟩, fun _ => ⟨⟨by omega, by omega⟩, True.intro⟩, ⟨by omega, by omega⟩, fun w16 e16 => ⟨⟨by omega, by omega⟩, kk w16 ?_⟩⟩⟩
      subst e5
      have hmx : ∀ a b, z_bl y2 a → z_bl y2 b → z_mx w16 172 a b = if a = q.1 ∧ b = q.2.1 then min (z_mx v 172 q.1 q.2.1) q.2.2.1 else z_mx v 172 a b := by
        intro a b ha hb
        rw [e16, z_mxW ⟨w1', by omega⟩ ⟨w3, by omega⟩ ⟨ha.1, by have := ha.2; omega⟩ ⟨hb.1, by have := hb.2; omega⟩]
        by_cases e : a = q.1 ∧ b = q.2.1
        · rw [if_pos e, if_pos e]
          show (if z_mx v 172 q.1 q.2.1 ≤ q.2.2.1 then z_mx v 172 q.1 q.2.1 else q.2.2.1) = _
          split <;> omega
        · rw [if_neg e, if_neg e]
      refine ⟨vf.trans (by rw [e16]; exact z_frWW), fun y hy a b ha hb => ?_, fun a ha => ?_, fun j r hj hr => ?_, fun a b ha hb => ?_⟩
      · rw [hmx a b ha hb]
        have g1 := a1 y hy a b ha hb
        split
        · rename_i e
          obtain ⟨rfl, rfl⟩ := e
          have g2 := hy q hmem
          omega
        · exact g1
      · rw [hmx a a ha ha]
        have := a2 a ha
        split
        · rename_i e
          obtain ⟨e1, e2⟩ := e
          rw [← e1, ← e2]
          omega
        · exact this
      · have hrm := List.mem_of_getElem? hr
        rw [hmx r.1 r.2.1 (hwf r hrm).1 (hwf r hrm).2]
        by_cases hji : (j : Int) < i
        · have := a3 j r hji hr
          split
          · rename_i e
            rw [← e.1, ← e.2]
            omega
          · exact this
        · have : j = i.toNat := by omega
          subst this
          rw [hq] at hr
          cases hr
          rw [if_pos ⟨rfl, rfl⟩]
          omega
      · rw [hmx a b ha hb]
        have := a4 a b ha hb
        split
        · rename_i e
          rw [← e.1, ← e.2]
          omega
        · exact this
  · rintro i v i0 i1 ⟨vf, vm⟩ kk
    refine t_X9_lays_13 hM ⟨fun c => absurd c (by omega), fun _ => ?_⟩
    refine z_for (n := y2) (i0 := 0) (fun j v => z_Sem mX9_lays (sh.length, 0) 20 [(0, z_r 161), (1, z_i y2), (2, z_i i), (3, z_i j)] [] (sh, v) _)
      (fun j v => z_frW w1 v 172 ∧ ∀ a b, z_bl y2 a → z_bl y2 b → (a < i ∨ (a = i ∧ b < j)) → z_mx v 172 a b = if a = b then 0 else 1000000) (by omega) ⟨vf, fun a b ha hb h => vm a b ha hb (by rcases h with h | ⟨h1, h2⟩; exact h; exact absurd h2 (by have := hb.1; omega))⟩ ?_ ?_
    · rintro v ⟨vf, vm⟩
      refine t_X9_lays_20 hM ⟨fun _ => ⟨⟨by omega, by omega⟩, kk v ⟨vf, fun a b ha hb h => vm a b ha hb (by have := hb.2; omega)⟩⟩, fun c => absurd (Int.le_refl _) c⟩
    · rintro j v j0 j1 ⟨vf, vm⟩ kk
      have hpq : f_X9_pair v i j = i * 10 + j := by unfold f_X9_pair; omega
      refine t_X9_lays_20 hM ⟨fun c => absurd c (by omega), fun _ => ⟨z_spa ⟨i0, by omega⟩ ⟨j0, by omega⟩, by rw [hpq]; omega, fun w8 e8 => ⟨⟨by omega, by omega⟩, kk w8 ⟨vf.trans (by rw [e8]; exact z_frWW), fun a b ha hb h => ?_⟩⟩⟩⟩
      rw [e8, hpq, z_mxW ⟨i0, by omega⟩ ⟨j0, by omega⟩ ⟨ha.1, by have := ha.2; omega⟩ ⟨hb.1, by have := hb.2; omega⟩]
      by_cases e : a = i ∧ b = j
      · rw [if_pos e, e.1, e.2]
      · rw [if_neg e]
        exact vm a b ha hb (by omega)
