/-! THE REFERENCE'S BOOKKEEPING: begins, fails, done, undo, logs -/
theorem z_mg.cg {f f' : Int → Int} {A : z_A} (h : z_mg f A) (hA : z_okg A) (hf : ∀ j : Int, 0 ≤ j → j < 264 → f' j = f j) : z_mg f' A := by
  obtain ⟨hE, hn, hg, -⟩ := hA
  obtain ⟨h1, h2, h3, h4, h5⟩ := h
  refine ⟨by rw [hf 0 (by omega) (by omega), h1], by rw [hf 1 (by omega) (by omega), h2], by rw [hf 2 (by omega) (by omega), h3], fun g g0 g1 => ?_, fun e e0 e1 => ?_⟩
  · rw [hf _ (by omega) (by omega), hf _ (by omega) (by omega), hf _ (by omega) (by omega), hf _ (by omega) (by omega), hf _ (by omega) (by omega)]
    exact h4 g g0 g1
  · rw [hf _ (by omega) (by omega)]
    exact h5 e e0 e1
theorem z_mr.cg {f f' : Int → Int} {A : z_A} (h : z_mr f A) (hA : z_okg A) (hf : ∀ j : Int, 0 ≤ j → j < 264 → f' j = f j) : z_mr f' A := by
  obtain ⟨h1, h2, h3, h4, h5⟩ := h
  have hn := hA.2.1
  refine ⟨h1.cg hA hf, fun e e0 e1 => ?_, h3, by rw [hf 143 (by omega) (by omega), h4], fun i i0 i1 => ?_⟩
  · rw [hf _ (by omega) (by omega)]
    exact h2 e e0 e1
  · rw [hf _ (by omega) (by omega), hf _ (by omega) (by omega), hf _ (by omega) (by omega)]
    exact h5 i i0 i1
/-- one row like another -/
def z_row (f g : Int → Int) : Prop := ∀ j : Int, 0 ≤ j → j < 264 → f j = g j
theorem m_begins {sh : List z_C} {w : z_Mm} {K : z_Mm → Prop} (hM : z_isMod sh 161) (k : ∀ w', z_row (w' 164) (w 163) → (∀ c : Nat, c ≠ 164 → w' c = w c) → K w') : z_CV mX9_begins [z_r 161] sh w K := by
  refine z_CVi (t_X9_begins hM ?_)
  refine z_for (n := 264) (i0 := 0) (fun i v => z_Sem mX9_begins (sh.length, 0) 2 [(0, z_r 161), (1, z_i i)] [] (sh, v) _)
    (fun i v => (∀ c : Nat, c ≠ 164 → v c = w c) ∧ ∀ j : Int, 0 ≤ j → j < i → v 164 j = w 163 j) (by omega) ⟨fun _ _ => rfl, fun j j0 j1 => absurd j1 (by omega)⟩ ?_ ?_
  · rintro v ⟨vf, v8⟩
    exact t_X9_begins_2 hM ⟨fun _ => ⟨v, rfl, rfl, k v v8 vf⟩, fun c => absurd (Int.le_refl _) c⟩
  · rintro i v i0 i1 ⟨vf, v8⟩ kk
    refine t_X9_begins_2 hM ⟨fun c => absurd c (by omega), fun _ => ⟨⟨by omega, by omega⟩, ⟨by omega, by omega⟩, fun w3 e3 => ⟨⟨by omega, by omega⟩, kk w3 ⟨fun c hc => ?_, fun j j0 j1 => ?_⟩⟩⟩⟩
    · rw [e3, z_Wf hc, vf c hc]
    · rw [e3, vf 163 (by omega)]
      by_cases e : j = i
      · subst e; rw [z_W_same]
      · rw [z_W_ne (Or.inr e)]; exact v8 j j0 (by omega)
theorem m_fails {sh : List z_C} {w : z_Mm} {x : Int} {K : Int → z_Mm → Prop} (hM : z_isMod sh 161) (k : ∀ w', z_row (w' 163) (w 164) → (∀ c : Nat, c ≠ 163 → w' c = w c) → K x w') : z_CI mX9_fails [z_r 161, z_i x] sh w K := by
  refine z_CIi (t_X9_fails hM ?_)
  refine z_for (n := 264) (i0 := 0) (fun i v => z_Sem mX9_fails (sh.length, 0) 2 [(0, z_r 161), (1, z_i x), (2, z_i i)] [] (sh, v) _)
    (fun i v => (∀ c : Nat, c ≠ 163 → v c = w c) ∧ ∀ j : Int, 0 ≤ j → j < i → v 163 j = w 164 j) (by omega) ⟨fun _ _ => rfl, fun j j0 j1 => absurd j1 (by omega)⟩ ?_ ?_
  · rintro v ⟨vf, v8⟩
    exact t_X9_fails_2 hM ⟨fun _ => ⟨x, v, rfl, rfl, k v v8 vf⟩, fun c => absurd (Int.le_refl _) c⟩
  · rintro i v i0 i1 ⟨vf, v8⟩ kk
    refine t_X9_fails_2 hM ⟨fun c => absurd c (by omega), fun _ => ⟨⟨by omega, by omega⟩, ⟨by omega, by omega⟩, fun w3 e3 => ⟨⟨by omega, by omega⟩, kk w3 ⟨fun c hc => ?_, fun j j0 j1 => ?_⟩⟩⟩⟩
    · rw [e3, z_Wf hc, vf c hc]
    · rw [e3, vf 164 (by omega)]
      by_cases e : j = i
      · subst e; rw [z_W_same]
      · rw [z_W_ne (Or.inr e)]; exact v8 j j0 (by omega)
theorem m_puts {sh : List z_C} {w : z_Mm} {x1 x2 x3 : Int} {K : z_Mm → Prop} (hM : z_isMod sh 161) (h1 : 0 ≤ x1 ∧ x1 < 24) (h2 : 0 ≤ x2 ∧ x2 < 5) (k : K (z_W w 163 (13 + 5 * x1 + x2) x3)) : z_CV mX9_puts [z_r 161, z_i x1, z_i x2, z_i x3] sh w K :=
  z_CVi (t_X9_puts hM ⟨⟨by omega, by omega⟩, ⟨by omega, by omega⟩, ⟨by omega, by omega⟩, ⟨by omega, by omega⟩, fun w4 e4 => ⟨w4, rfl, rfl, by rw [e4]; exact k⟩⟩)
theorem m_logs {sh : List z_C} {w : z_Mm} {A : z_A} {x y z : Int} {K : z_Mm → Prop} (hM : z_isMod sh 161) (hA : z_okg A) (hm : z_mr (w 163) A)
    (k : ∀ w', z_mr (w' 163) (z_note A x y z) → (∀ c : Nat, c ≠ 163 → w' c = w c) → K w') : z_CV mX9_logs [z_r 161, z_i x, z_i y, z_i z] sh w K := by
  obtain ⟨h1, h2, h3, h4, h5⟩ := hm
  have hE := hA.1
  have hn := hA.2.1
  have hg := hA.2.2.1
  have e10 : z_note A x y z 10 0 = if A 10 0 = 40 then 40 else A 10 0 + 1 := rfl
  have fin : ∀ u : z_Mm, (∀ j : Int, j < 143 → u 163 j = w 163 j) → u 163 143 = z_note A x y z 10 0 → (∀ i : Int, 0 ≤ i → i < z_note A x y z 10 0 → u 163 (144 + 3 * i + 0) = z_note A x y z 11 i ∧ u 163 (144 + 3 * i + 1) = z_note A x y z 12 i ∧ u 163 (144 + 3 * i + 2) = z_note A x y z 13 i) → z_mr (u 163) (z_note A x y z) := by
    intro u q1 q2 q3
    obtain ⟨g1, g2, g3, g4, g5⟩ := h1
    refine ⟨⟨?_, ?_, ?_, fun g g0 g1 => ?_, fun e e0 e1 => ?_⟩, fun e e0 e1 => ?_, ?_, q2, q3⟩
    · rw [q1 _ (by omega), g1]; exact (z_note_lt (by decide)).symm
    · rw [q1 _ (by omega), g2]; exact (z_note_lt (by decide)).symm
    · rw [q1 _ (by omega), g3]; exact (z_note_lt (by decide)).symm
    · rw [z_note_lt (by decide)] at g1
      rw [q1 _ (by omega), q1 _ (by omega), q1 _ (by omega), q1 _ (by omega), q1 _ (by omega), z_note_lt (by decide), z_note_lt (by decide), z_note_lt (by decide), z_note_lt (by decide), z_note_lt (by decide)]
      exact g4 g g0 g1
    · rw [z_note_lt (by decide)] at e1
      rw [q1 _ (by omega), z_note_lt (by decide)]
      exact g5 e e0 e1
    · rw [z_note_lt (by decide)] at e1
      rw [q1 _ (by omega), z_note_lt (by decide)]
      exact h2 e e0 e1
    · rw [e10]; split <;> omega
  refine z_CVi (t_X9_logs hM ⟨fun c => ?_, fun c => ?_⟩)
  · rw [h4] at c
    have hn' : ∀ i : Int, z_note A x y z 11 i = (if i = 39 then x else A 11 (i + 1)) ∧ z_note A x y z 12 i = (if i = 39 then y else A 12 (i + 1)) ∧ z_note A x y z 13 i = (if i = 39 then z else A 13 (i + 1)) := by
      intro i
      simp only [z_note, c]
      exact ⟨rfl, rfl, rfl⟩
    refine z_for (n := 117) (i0 := 0) (fun i v => z_Sem mX9_logs (sh.length, 0) 16 [(0, z_r 161), (1, z_i x), (2, z_i y), (3, z_i z), (4, z_i i)] [] (sh, v) _)
      (fun i v => (∀ c : Nat, c ≠ 163 → v c = w c) ∧ (∀ j : Int, j < 144 → v 163 j = w 163 j) ∧ (∀ j : Int, 0 ≤ j → j < i → v 163 (144 + j) = w 163 (144 + j + 3)) ∧ ∀ j : Int, 144 + i ≤ j → v 163 j = w 163 j)
      (by omega) ⟨fun _ _ => rfl, fun _ _ => rfl, fun j j0 j1 => absurd j1 (by omega), fun _ _ => rfl⟩ ?_ ?_
    · rintro v ⟨vf, v1, v2, v3⟩
      refine t_X9_logs_16 hM ⟨fun _ => ?_, fun c => absurd (Int.le_refl _) c⟩
      rw [v1 143 (by omega), h4, c]
      refine ⟨⟨by omega, by omega⟩, fun w3 e3 => ?_⟩
      have k3 : w3 163 143 = 39 := by rw [e3, z_W_same]; rfl
      rw [k3]
      refine ⟨⟨by omega, by omega⟩, ⟨by omega, by omega⟩, fun y6 e6 => ⟨⟨by omega, by omega⟩, fun w7 e7 => ⟨⟨by omega, by omega⟩, ⟨by omega, by omega⟩, fun w10 e10' => ⟨⟨by omega, by omega⟩, ⟨by omega, by omega⟩, fun w13 e13 => ?_⟩⟩⟩⟩
      have k13 : w13 163 143 = 39 := by rw [e13, z_W_ne (Or.inr (by omega)), e10', z_W_ne (Or.inr (by omega)), e7, z_W_ne (Or.inr (by omega)), k3]
      rw [k13]
      refine ⟨⟨by omega, by omega⟩, fun w16 e16 => ⟨w16, rfl, rfl, k w16 (fin w16 (fun j j1 => ?_) ?_ (fun i i0 i1 => ?_)) (fun c hc => ?_)⟩⟩
      · rw [e16, z_W_ne (Or.inr (by omega)), e13, z_W_ne (Or.inr (by omega)), e10', z_W_ne (Or.inr (by omega)), e7, z_W_ne (Or.inr (by omega)), e3, z_W_ne (Or.inr (by omega)), v1 j (by omega)]
      · rw [e16, z_W_same, e10, if_pos c]; rfl
      · rw [e10, if_pos c] at i1
        obtain ⟨n1, n2, n3⟩ := hn' i
        rw [n1, n2, n3]
        by_cases hi : i = 39
        · subst hi
          rw [if_pos rfl, if_pos rfl, if_pos rfl]
          refine ⟨?_, ?_, ?_⟩
          · rw [e16, z_W_ne (Or.inr (by omega)), e13, z_W_ne (Or.inr (by omega)), e10', z_W_ne (Or.inr (by omega)), e7, show (144 + 3 * 39 + 0 : Int) = y6 by omega, z_W_same]
          · rw [e16, z_W_ne (Or.inr (by omega)), e13, z_W_ne (Or.inr (by omega)), e10', show (144 + 3 * 39 + 1 : Int) = y6 + 1 by omega, z_W_same]
          · rw [e16, z_W_ne (Or.inr (by omega)), e13, show (144 + 3 * 39 + 2 : Int) = y6 + 2 by omega, z_W_same]
        · rw [if_neg hi, if_neg hi, if_neg hi]
          have q : ∀ d : Int, 0 ≤ d → d ≤ 2 → w16 163 (144 + 3 * i + d) = w 163 (144 + 3 * (i + 1) + d) := by
            intro d d0 d2
            rw [e16, z_W_ne (Or.inr (by omega)), e13, z_W_ne (Or.inr (by omega)), e10', z_W_ne (Or.inr (by omega)), e7, z_W_ne (Or.inr (by omega)), e3, z_W_ne (Or.inr (by omega)),
              show 144 + 3 * i + d = 144 + (3 * i + d) by omega, v2 _ (by omega) (by omega)]
            congr 1
            omega
          rw [q 0 (by omega) (by omega), q 1 (by omega) (by omega), q 2 (by omega) (by omega)]
          exact h5 (i + 1) (by omega) (by omega)
      · rw [e16, z_Wf hc, e13, z_Wf hc, e10', z_Wf hc, e7, z_Wf hc, e3, z_Wf hc, vf c hc]
    · rintro i v i0 i1 ⟨vf, v1, v2, v3⟩ kk
      refine t_X9_logs_16 hM ⟨fun c => absurd c (by omega), fun _ => ⟨⟨by omega, by omega⟩, ⟨by omega, by omega⟩, ⟨by omega, by omega⟩, ⟨by omega, by omega⟩, ⟨by omega, by omega⟩, fun w21 e21 => ⟨⟨by omega, by omega⟩, kk w21 ⟨fun c hc => ?_, fun j j1 => ?_, fun j j0 j1 => ?_, fun j j1 => ?_⟩⟩⟩⟩
      · rw [e21, z_Wf hc, vf c hc]
      · rw [e21, z_W_ne (Or.inr (by omega)), v1 j j1]
      · rw [e21]
        by_cases e : j = i
        · subst e; rw [z_W_same, v3 _ (by omega)]
        · rw [z_W_ne (Or.inr (by omega))]; exact v2 j j0 (by omega)
      · rw [e21, z_W_ne (Or.inr (by omega)), v3 j (by omega)]
  · rw [h4] at c
    have hm : min (A 10 0) 39 = A 10 0 := by omega
    have hn' : ∀ i : Int, z_note A x y z 11 i = (if i = A 10 0 then x else A 11 i) ∧ z_note A x y z 12 i = (if i = A 10 0 then y else A 12 i) ∧ z_note A x y z 13 i = (if i = A 10 0 then z else A 13 i) := by
      intro i
      simp only [z_note, hm, if_neg c]
      exact ⟨rfl, rfl, rfl⟩
    rw [h4]
    refine ⟨⟨by omega, by omega⟩, ⟨by omega, by omega⟩, fun y6 e6 => ⟨⟨by omega, by omega⟩, fun w7 e7 => ⟨⟨by omega, by omega⟩, ⟨by omega, by omega⟩, fun w10 e10' => ⟨⟨by omega, by omega⟩, ⟨by omega, by omega⟩, fun w13 e13 => ?_⟩⟩⟩⟩
    have k13 : w13 163 143 = A 10 0 := by rw [e13, z_W_ne (Or.inr (by omega)), e10', z_W_ne (Or.inr (by omega)), e7, z_W_ne (Or.inr (by omega)), h4]
    rw [k13]
    refine ⟨⟨by omega, by omega⟩, fun w16 e16 => ⟨w16, rfl, rfl, k w16 (fin w16 (fun j j1 => ?_) ?_ (fun i i0 i1 => ?_)) (fun c hc => ?_)⟩⟩
    · rw [e16, z_W_ne (Or.inr (by omega)), e13, z_W_ne (Or.inr (by omega)), e10', z_W_ne (Or.inr (by omega)), e7, z_W_ne (Or.inr (by omega))]
    · rw [e16, z_W_same, e10, if_neg c]
    · rw [e10, if_neg c] at i1
      obtain ⟨n1, n2, n3⟩ := hn' i
      rw [n1, n2, n3]
      by_cases hi : i = A 10 0
      · rw [if_pos hi, if_pos hi, if_pos hi]
        refine ⟨?_, ?_, ?_⟩
        · rw [e16, z_W_ne (Or.inr (by omega)), e13, z_W_ne (Or.inr (by omega)), e10', z_W_ne (Or.inr (by omega)), e7, show 144 + 3 * i + 0 = y6 by omega, z_W_same]
        · rw [e16, z_W_ne (Or.inr (by omega)), e13, z_W_ne (Or.inr (by omega)), e10', show 144 + 3 * i + 1 = y6 + 1 by omega, z_W_same]
        · rw [e16, z_W_ne (Or.inr (by omega)), e13, show 144 + 3 * i + 2 = y6 + 2 by omega, z_W_same]
      · rw [if_neg hi, if_neg hi, if_neg hi]
        have q : ∀ d : Int, 0 ≤ d → d ≤ 2 → w16 163 (144 + 3 * i + d) = w 163 (144 + 3 * i + d) := by
          intro d d0 d2
          rw [e16, z_W_ne (Or.inr (by omega)), e13, z_W_ne (Or.inr (by omega)), e10', z_W_ne (Or.inr (by omega)), e7, z_W_ne (Or.inr (by omega))]
        rw [q 0 (by omega) (by omega), q 1 (by omega) (by omega), q 2 (by omega) (by omega)]
        exact h5 i (by omega) (by omega)
    · rw [e16, z_Wf hc, e13, z_Wf hc, e10', z_Wf hc, e7, z_Wf hc]
/-- the reference's history -/
def z_hm (w : z_Mm) (H : List z_A) : Prop := H.length ≤ 8 ∧ w 161 8 = (H.length : Int) ∧ ∀ (k : Nat) (B : z_A), H[k]? = some B → z_mr (fun j => w 165 (264 * (k : Int) + j)) B
theorem z_hm.fr {w w' : z_Mm} {H : List z_A} (h : z_hm w H) (h8 : w' 161 8 = w 161 8) (h5 : w' 165 = w 165) : z_hm w' H := by
  unfold z_hm
  rw [h8, h5]
  exact h
theorem m_done {sh : List z_C} {w : z_Mm} {H : List z_A} {A : z_A} {x : Int} {K : Int → z_Mm → Prop} (hM : z_isMod sh 161) (hh : z_hm w H) (hok : ∀ B ∈ H, z_okg B) (hA : z_okg A) (hm : z_mr (w 164) A)
    (k : ∀ w', z_hm w' (z_push H A) → (∀ c : Nat, c ≠ 165 → c ≠ 161 → w' c = w c) → (∀ j : Int, j ≠ 8 → w' 161 j = w 161 j) → K x w') : z_CI mX9_done [z_r 161, z_i x] sh w K := by
  obtain ⟨h1, h2, h3⟩ := hh
  have tail : ∀ (G : List z_A) (u : z_Mm), G.length < 8 → z_hm u G → (∀ B ∈ G, z_okg B) → u 164 = w 164 → (∀ w', z_hm w' (G ++ [A]) → (∀ c : Nat, c ≠ 165 → c ≠ 161 → w' c = u c) → (∀ j : Int, j ≠ 8 → w' 161 j = u 161 j) → K x w') →
      z_Sem mX9_done (sh.length, 0) 52 [(0, z_r 161), (1, z_i x), (2, z_i 0)] [] (sh, u) (fun r σ => ∃ (x : Int) (w' : z_Mm), r = some (z_i x) ∧ σ = (sh, w') ∧ K x w') := by
    intro G u hG hu hGo hu4 kk
    obtain ⟨u1, u2, u3⟩ := hu
    refine z_for (n := 264) (i0 := 0) (fun i v => z_Sem mX9_done (sh.length, 0) 52 [(0, z_r 161), (1, z_i x), (2, z_i i)] [] (sh, v) _)
      (fun i v => (∀ c : Nat, c ≠ 165 → v c = u c) ∧ (∀ j : Int, j < 264 * (G.length : Int) → v 165 j = u 165 j) ∧ ∀ j : Int, 0 ≤ j → j < i → v 165 (264 * (G.length : Int) + j) = w 164 j)
      (by omega) ⟨fun _ _ => rfl, fun _ _ => rfl, fun j j0 j1 => absurd j1 (by omega)⟩ ?_ ?_
    · rintro v ⟨vf, v1, v2⟩
      refine t_X9_done_52 hM ⟨fun _ => ?_, fun c => absurd (Int.le_refl _) c⟩
      rw [vf 161 (by omega), u2]
      refine ⟨⟨by omega, by omega⟩, fun w3 e3 => ⟨x, w3, rfl, rfl, kk w3 ⟨by simp; omega, ?_, fun j B hj => ?_⟩ (fun c hc hc1 => ?_) (fun j hj => ?_)⟩⟩
      · rw [e3, z_W_same]; simp
      · have e35 : w3 165 = v 165 := by rw [e3, z_Wf (by omega)]
        by_cases hjl : j < G.length
        · rw [List.getElem?_append_left hjl] at hj
          refine (u3 j B hj).cg (hGo B (List.mem_of_getElem? hj)) (fun i i0 i1 => ?_)
          show w3 165 _ = u 165 _
          rw [e35, v1 _ (by omega)]
        · rw [List.getElem?_append_right (by omega)] at hj
          have hz : j - G.length < 1 := (List.getElem?_eq_some_iff.mp hj).1
          have : j = G.length := by omega
          subst this
          rw [Nat.sub_self] at hj
          cases hj
          refine hm.cg hA (fun i i0 i1 => ?_)
          show w3 165 _ = w 164 _
          rw [e35, v2 i i0 i1]
      · rw [e3, z_Wf hc1, vf c hc]
      · rw [e3, z_W_ne (Or.inr hj), vf 161 (by omega)]
    · rintro i v i0 i1 ⟨vf, v1, v2⟩ k2
      refine t_X9_done_52 hM ⟨fun c => absurd c (by omega), fun _ => ?_⟩
      rw [vf 161 (by omega), u2, vf 164 (by omega), hu4]
      refine ⟨⟨by omega, by omega⟩, ⟨by omega, by omega⟩, ⟨by omega, by omega⟩, ⟨by omega, by omega⟩, fun w7 e7 => ⟨⟨by omega, by omega⟩, k2 w7 ⟨fun c hc => ?_, fun j j1 => ?_, fun j j0 j1 => ?_⟩⟩⟩
      · rw [e7, z_Wf hc, vf c hc]
      · rw [e7, z_W_ne (Or.inr (by omega)), v1 j j1]
      · rw [e7]
        by_cases e : j = i
        · subst e; rw [z_W_same]
        · rw [z_W_ne (Or.inr (by omega))]; exact v2 j j0 (by omega)
  refine z_CIi (t_X9_done hM ⟨fun c => ?_, fun c => ?_⟩)
  · have h8 : H.length = 8 := by omega
    have hp : z_push H A = H.drop 1 ++ [A] := by simp [z_push, h8]
    rw [hp] at k
    refine z_for (n := 1848) (i0 := 0) (fun i v => z_Sem mX9_done (sh.length, 0) 11 [(0, z_r 161), (1, z_i x), (2, z_i i)] [] (sh, v) _)
      (fun i v => (∀ c : Nat, c ≠ 165 → v c = w c) ∧ (∀ j : Int, 0 ≤ j → j < i → v 165 j = w 165 (j + 264)) ∧ ∀ j : Int, i ≤ j → v 165 j = w 165 j)
      (by omega) ⟨fun _ _ => rfl, fun j j0 j1 => absurd j1 (by omega), fun _ _ => rfl⟩ ?_ ?_
    · rintro v ⟨vf, v1, v2⟩
      refine t_X9_done_11 hM ⟨fun _ => ?_, fun c => absurd (Int.le_refl _) c⟩
      rw [vf 161 (by omega), c]
      refine ⟨⟨by omega, by omega⟩, fun w3 e3 => ?_⟩
      refine tail (H.drop 1) w3 (by simp; omega) ⟨by simp; omega, by rw [e3, z_W_same]; simp [h8], fun j B hj => ?_⟩ (fun B hB => hok B (List.mem_of_mem_drop hB)) (by rw [e3, z_Wf (by omega), vf _ (by omega)])
        (fun w' q1 q2 q3 => k w' q1 (fun c hc hc1 => by rw [q2 c hc hc1, e3, z_Wf hc1, vf c hc]) (fun j hj => by rw [q3 j hj, e3, z_W_ne (Or.inr hj), vf 161 (by omega)]))
      rw [List.getElem?_drop] at hj
      have hjl := (List.getElem?_eq_some_iff.mp hj).1
      refine (h3 (1 + j) B hj).cg (hok B (List.mem_of_getElem? hj)) (fun i i0 i1 => ?_)
      show w3 165 _ = w 165 _
      rw [e3, z_Wf (by omega), v1 _ (by omega) (by omega)]
      congr 1
      omega
    · rintro i v i0 i1 ⟨vf, v1, v2⟩ k2
      refine t_X9_done_11 hM ⟨fun c => absurd c (by omega), fun _ => ⟨⟨by omega, by omega⟩, ⟨by omega, by omega⟩, ⟨by omega, by omega⟩, fun w6 e6 => ⟨⟨by omega, by omega⟩, k2 w6 ⟨fun c hc => ?_, fun j j0 j1 => ?_, fun j j1 => ?_⟩⟩⟩⟩
      · rw [e6, z_Wf hc, vf c hc]
      · rw [e6]
        by_cases e : j = i
        · subst e; rw [z_W_same, v2 _ (by omega)]
        · rw [z_W_ne (Or.inr e)]; exact v1 j j0 (by omega)
      · rw [e6, z_W_ne (Or.inr (by omega)), v2 j (by omega)]
  · have h8 : ¬ H.length = 8 := by omega
    have hp : z_push H A = H ++ [A] := by simp [z_push, h8]
    rw [hp] at k
    exact tail H w (by omega) ⟨h1, h2, h3⟩ hok rfl k
/-- what the reference leaves alone when it changes its plan -/
def z_frM (w w' : z_Mm) : Prop := (∀ a : Nat, a ≠ 161 → a ≠ 163 → a ≠ 164 → a ≠ 165 → (a < 168 ∨ 172 < a) → w' a = w a) ∧ ∀ j : Int, j ≠ 8 → j ≠ 13 → w' 161 j = w 161 j
theorem z_frM.rf {w : z_Mm} : z_frM w w := ⟨fun _ _ _ _ _ _ => rfl, fun _ _ _ => rfl⟩
theorem z_frM.trans {w w1 w2 : z_Mm} (h1 : z_frM w w1) (h2 : z_frM w1 w2) : z_frM w w2 := ⟨fun a a1 a2 a3 a4 a5 => (h2.1 a a1 a2 a3 a4 a5).trans (h1.1 a a1 a2 a3 a4 a5), fun j j1 j2 => (h2.2 j j1 j2).trans (h1.2 j j1 j2)⟩
theorem z_frM.of {w w' : z_Mm} {a : Nat} (ha : a = 163 ∨ a = 164 ∨ a = 165) (h : ∀ c : Nat, c ≠ a → w' c = w c) : z_frM w w' := ⟨fun b _ b2 b3 b4 _ => h b (by omega), fun j _ _ => by rw [h 161 (by omega)]⟩
theorem z_frL.M {w w' : z_Mm} (h : z_frL w w') : z_frM w w' := ⟨fun a a1 _ _ _ a5 => h.1 a a1 a5, fun j _ j2 => h.2 j j2⟩
theorem m_doneIf {sh : List z_C} {w : z_Mm} {H : List z_A} {A A0 : z_A} {x y z r : Int} {K : Int → z_Mm → Prop} (hM : z_isMod sh 161) (hh : z_hm w H) (hok : ∀ B ∈ H, z_okg B) (hA0 : z_okg A0) (hA : z_okg A) (hm0 : z_mr (w 164) A0) (hm : z_mr (w 163) A)
    (k1 : z_bears A → ∀ w', z_mr (w' 163) (z_note A x y z) → z_hm w' (z_push H A0) → z_frM w w' → K r w')
    (k0 : ¬ z_bears A → ∀ w', z_mr (w' 163) A0 → z_hm w' H → z_frM w w' → K (-5) w') : z_CI mX9_doneIf [z_r 161, z_i x, z_i y, z_i z, z_i r] sh w K := by
  refine z_CIi (t_X9_doneIf hM ?_)
  refine m_lays hM hA hm.1 (fun b w1 _ _ f1 hb _ => ?_)
  have e3 : w1 163 = w 163 := f1.1 163 (by omega) (by omega)
  have e4 : w1 164 = w 164 := f1.1 164 (by omega) (by omega)
  have hh1 : z_hm w1 H := hh.fr (f1.2 8 (by omega)) (f1.1 165 (by omega) (by omega))
  rcases hb with ⟨b1, hb, -⟩ | ⟨b0, hb⟩
  · refine ⟨fun c => absurd c (by omega), fun _ => ?_⟩
    refine m_logs hM hA (by rw [e3]; exact hm) (fun w4 q1 q2 => ?_)
    refine m_done hM (hh1.fr (by rw [q2 161 (by omega)]) (q2 165 (by omega))) hok hA0 (by rw [q2 164 (by omega), e4]; exact hm0) (fun w5 p1 p2 p3 => ?_)
    refine ⟨r, w5, rfl, rfl, k1 hb w5 (by rw [p2 163 (by omega) (by omega)]; exact q1) p1 ((f1.M.trans (z_frM.of (a := 163) (by omega) q2)).trans ⟨fun a a1 a2 a3 a4 a5 => p2 a a4 a1, fun j j1 j2 => p3 j j1⟩)⟩
  · refine ⟨fun _ => ?_, fun c => absurd b0 c⟩
    refine m_fails hM (fun w4 q1 q2 => ?_)
    refine ⟨-5, w4, rfl, rfl, k0 hb w4 ?_ (hh1.fr (by rw [q2 161 (by omega)]) (q2 165 (by omega))) (f1.M.trans (z_frM.of (a := 163) (by omega) q2))⟩
    rw [e4] at q1
    exact hm0.cg hA0 q1
