/-! THE CLASS'S NET -/
def z_mt (w : z_Mm) (N : Nat) (l : z_E) : Prop := ∀ (k : Nat) (q : Int × Int × Int × Int), l[k]? = some q → w (N + 1) (k : Int) = q.1 ∧ w (N + 2) (k : Int) = q.2.1 ∧ w (N + 3) (k : Int) = q.2.2.1 ∧ w (N + 4) (k : Int) = q.2.2.2
/-- nothing but a net's own cells is touched -/
def z_frN (w w' : z_Mm) (N : Nat) : Prop := ∀ a : Nat, (a < N ∨ N + 5 < a) → w' a = w a
theorem z_frN.trans {w w1 w2 : z_Mm} {N : Nat} (h1 : z_frN w w1 N) (h2 : z_frN w1 w2 N) : z_frN w w2 N := fun a h => (h2 a h).trans (h1 a h)
theorem z_frN.rf {w : z_Mm} {N : Nat} : z_frN w w N := fun _ _ => rfl
theorem z_frNW {w : z_Mm} {N b : Nat} {i x : Int} (h : N ≤ b ∧ b ≤ N + 5) : z_frN w (z_W w b i x) N := fun a ha => z_Wf (by omega)
theorem c_collect {sh : List z_C} {w : z_Mm} {N : Nat} {K : z_Mm → Prop} {b f n c : Int} (hN : z_isNet sh N) (l : z_E) (h5 : w N 5 = (l.length : Int)) (hm : z_mt w N l) (hl : l.length < 60)
    (k : ∀ w', w' N 5 = ((l ++ [(b, f, n, c)]).length : Int) → z_mt w' N (l ++ [(b, f, n, c)]) → z_frN w w' N → w' N 6 = w N 6 → K w') : z_CV mX2_collect [z_r N, z_i b, z_i f, z_i n, z_i c] sh w K := by
  refine z_CVi (t_X2_collect hN ⟨fun q => absurd q (by omega), fun _ => ⟨⟨by omega, by omega⟩, ?_⟩⟩)
  intro w2 e2
  have a2 : w2 N 5 = (l.length : Int) := by rw [e2, z_W_ne (Or.inl (by omega)), h5]
  refine ⟨⟨by omega, by omega⟩, fun w4 e4 => ?_⟩
  have a4 : w4 N 5 = (l.length : Int) := by rw [e4, z_W_ne (Or.inl (by omega)), a2]
  refine ⟨⟨by omega, by omega⟩, fun w6 e6 => ?_⟩
  have a6 : w6 N 5 = (l.length : Int) := by rw [e6, z_W_ne (Or.inl (by omega)), a4]
  refine ⟨⟨by omega, by omega⟩, fun w8 e8 => ?_⟩
  have a8 : w8 N 5 = (l.length : Int) := by rw [e8, z_W_ne (Or.inl (by omega)), a6]
  refine ⟨⟨by omega, by omega⟩, fun w11 e11 => ?_⟩
  rw [h5] at e2
  rw [a2] at e4
  rw [a4] at e6
  rw [a6] at e8
  rw [a8] at e11
  refine ⟨w11, rfl, rfl, k w11 ?_ ?_ ?_ ?_⟩
  · rw [e11, z_W_same]; simp
  · intro j q hq
    have hne : ∀ i : Nat, i ≠ N → w11 i = w8 i := fun i hi => by rw [e11]; exact z_Wf hi
    rw [hne _ (by omega), hne _ (by omega), hne _ (by omega), hne _ (by omega)]
    by_cases hj : j < l.length
    · rw [List.getElem?_append_left hj] at hq
      obtain ⟨g1, g2, g3, g4⟩ := hm j q hq
      have nj : (j : Int) ≠ (l.length : Int) := by omega
      rw [e8, z_W_ne (Or.inl (by omega)), z_W_ne (Or.inl (by omega)), z_W_ne (Or.inl (by omega)), z_W_ne (Or.inr nj), e6, z_W_ne (Or.inl (by omega)), z_W_ne (Or.inl (by omega)), z_W_ne (Or.inr nj), z_W_ne (Or.inl (by omega)), e4, z_W_ne (Or.inl (by omega)), z_W_ne (Or.inr nj), z_W_ne (Or.inl (by omega)), z_W_ne (Or.inl (by omega)), e2, z_W_ne (Or.inr nj), z_W_ne (Or.inl (by omega)), z_W_ne (Or.inl (by omega)), z_W_ne (Or.inl (by omega))]
      exact ⟨g1, g2, g3, g4⟩
    · rw [List.getElem?_append_right (by omega)] at hq
      have hz : j - l.length < 1 := (List.getElem?_eq_some_iff.mp hq).1
      have : j = l.length := by omega
      subst this
      rw [Nat.sub_self] at hq
      cases hq
      rw [e8, z_W_ne (Or.inl (by omega)), z_W_ne (Or.inl (by omega)), z_W_ne (Or.inl (by omega)), z_W_same, e6, z_W_ne (Or.inl (by omega)), z_W_ne (Or.inl (by omega)), z_W_same, e4, z_W_ne (Or.inl (by omega)), z_W_same, e2, z_W_same]
      exact ⟨rfl, rfl, rfl, rfl⟩
  · rw [e11, e8, e6, e4, e2]
    exact ((((z_frNW (by omega)).trans (z_frNW (by omega))).trans (z_frNW (by omega))).trans (z_frNW (by omega))).trans (z_frNW (by omega))
  · rw [e11, z_W_ne (Or.inr (by decide)), e8, z_W_ne (Or.inl (by omega)), e6, z_W_ne (Or.inl (by omega)), e4, z_W_ne (Or.inl (by omega)), e2, z_W_ne (Or.inl (by omega))]
/-- what a net needs of a plan in the class's cells -/
def z_pg (w : z_Mm) (P : Nat) (A : z_A) : Prop := w P 9 = A 0 0 ∧ w P 10 = A 1 0 ∧ w P 11 = A 2 0 ∧
  (∀ g : Int, 0 ≤ g → g < A 2 0 → w (P + 4) g = A 3 g ∧ w (P + 5) g = A 4 g ∧ w (P + 6) g = A 5 g ∧ w (P + 7) g = A 6 g ∧ w (P + 8) g = A 7 g) ∧
  (∀ e : Int, 0 ≤ e → e < A 1 0 → w (P + 3) e = A 8 e)
theorem z_pg.fr {w w' : z_Mm} {P : Nat} {A : z_A} (h : z_pg w P A) (hf : ∀ a : Nat, P ≤ a → a ≤ P + 8 → w' a = w a) : z_pg w' P A := by
  unfold z_pg
  rw [hf P (by omega) (by omega), hf (P + 4) (by omega) (by omega), hf (P + 5) (by omega) (by omega), hf (P + 6) (by omega) (by omega), hf (P + 7) (by omega) (by omega), hf (P + 8) (by omega) (by omega), hf (P + 3) (by omega) (by omega)]
  exact h
/-- a net's cells and a plan's are apart -/
def z_ap (N P : Nat) : Prop := P + 10 < N ∨ N + 5 < P
theorem z_pg.frN {w w' : z_Mm} {N P : Nat} {A : z_A} (h : z_pg w P A) (ha : z_ap N P) (hf : z_frN w w' N) : z_pg w' P A := h.fr (fun a h1 h2 => hf a (by unfold z_ap at ha; omega))
theorem c_collectSteps {sh : List z_C} {w : z_Mm} {N P : Nat} {A : z_A} {lo : Int} {K : z_Mm → Prop} (hN : z_isNet sh N) (hP : z_isPla sh P) (hA : z_okg A) (hap : z_ap N P) (hp : z_pg w P A)
    (k : ∀ w', w' N 5 = ((z_Sx A lo).length : Int) → z_mt w' N (z_Sx A lo) → z_frN w w' N → w' N 6 = w N 6 → K w') : z_CV mX2_collectSteps [z_r N, z_r P, z_i lo] sh w K := by
  obtain ⟨hE, hn, hg, hgap, hpin, hp0⟩ := id hA
  have L1 := z_S1_len A lo
  have L2 := z_S2_len A
  have L3 := z_S3_len A
  refine z_CVi (t_X2_collectSteps hN hP ?_)
  intro w1 e1
  have f1 : z_frN w w1 N := by rw [e1]; exact z_frNW (by omega)
  have s1 : w1 N 6 = w N 6 := by rw [e1]; exact z_W_ne (Or.inr (by decide))
  -- gaps
  refine z_for (n := A 2 0) (i0 := 0) (fun i v => z_Sem mX2_collectSteps (sh.length, 0) 7 [(0, z_r N), (1, z_r P), (2, z_i lo), (3, z_i i)] [] (sh, v) _)
    (fun i v => v N 5 = ((z_S1 A lo i.toNat).length : Int) ∧ z_mt v N (z_S1 A lo i.toNat) ∧ z_frN w v N ∧ v N 6 = w N 6) (by omega) ⟨by rw [e1, z_W_same]; rfl, (fun j q hq => by cases hq), f1, s1⟩ ?_ ?_
  · -- events
    rintro v ⟨v5, vm, vf, v6⟩
    have hpv := hp.frN hap vf
    refine t_X2_collectSteps_7 hN hP ⟨fun _ => ?_, fun c => absurd (Int.le_of_eq hpv.2.2.1) c⟩
    refine z_for (n := A 1 0) (i0 := 1) (fun i v => z_Sem mX2_collectSteps (sh.length, 0) 95 [(0, z_r N), (1, z_r P), (3, z_i i)] [] (sh, v) _)
      (fun i v => v N 5 = ((z_S1 A lo (A 2 0).toNat ++ z_S2 A (i - 1).toNat).length : Int) ∧ z_mt v N (z_S1 A lo (A 2 0).toNat ++ z_S2 A (i - 1).toNat) ∧ z_frN w v N ∧ v N 6 = w N 6) (by omega) ⟨by simpa [z_S2] using v5, by simpa [z_S2] using vm, vf, v6⟩ ?_ ?_
    · -- pins
      rintro v ⟨v5, vm, vf, v6⟩
      have hpv := hp.frN hap vf
      refine t_X2_collectSteps_95 hN hP ⟨fun _ => ?_, fun c => absurd (Int.le_of_eq hpv.2.1) c⟩
      refine z_for (n := A 1 0) (i0 := 1) (fun i v => z_Sem mX2_collectSteps (sh.length, 0) 137 [(0, z_r N), (1, z_r P), (3, z_i i)] [] (sh, v) _)
        (fun i v => v N 5 = ((z_S1 A lo (A 2 0).toNat ++ z_S2 A (A 1 0 - 1).toNat ++ z_S3 A (i - 1).toNat).length : Int) ∧ z_mt v N (z_S1 A lo (A 2 0).toNat ++ z_S2 A (A 1 0 - 1).toNat ++ z_S3 A (i - 1).toNat) ∧ z_frN w v N ∧ v N 6 = w N 6) (by omega) ⟨by simpa [z_S3] using v5, by simpa [z_S3] using vm, vf, v6⟩ ?_ ?_
      · rintro v ⟨v5, vm, vf, v6⟩
        have hpv := hp.frN hap vf
        refine t_X2_collectSteps_137 hN hP ⟨fun _ => ⟨v, rfl, rfl, k v v5 vm vf v6⟩, fun c => absurd (Int.le_of_eq hpv.2.1) c⟩
      · rintro i v i0 i1 ⟨v5, vm, vf, v6⟩ kk
        have hpv := hp.frN hap vf
        have hpi := hpv.2.2.2.2 i (by omega) i1
        have ei : (i + 1 - 1).toNat = (i - 1).toNat + 1 := by omega
        have ej : (((i - 1).toNat : Nat) : Int) + 1 = i := by omega
        have l1 := L1 (A 2 0).toNat
        have l2 := L2 (A 1 0 - 1).toNat
        have l3 := L3 (i - 1).toNat
        rw [ei] at kk
        simp only [z_S3, ej] at kk
        have hb := hpin i (by omega) i1
        refine t_X2_collectSteps_137 hN hP ⟨fun c => absurd c (by rw [hpv.2.1]; omega), fun _ => ⟨⟨⟨by omega, by omega⟩, True.intro⟩, fun c => ?_, fun c => ?_⟩⟩
        · have hc : A 8 i = -1 := by
            unfold f_X3_isPinned at c
            rw [hpi] at c
            split at c
            · assumption
            · cases c
          refine ⟨⟨by omega, by omega⟩, kk v ?_⟩
          rw [if_pos hc, List.append_nil]
          exact ⟨v5, vm, vf, v6⟩
        · have hc : ¬ A 8 i = -1 := by
            unfold f_X3_isPinned at c
            rw [hpi] at c
            intro q
            rw [if_pos q] at c
            exact c rfl
          rw [if_neg hc] at kk
          refine ⟨⟨by omega, by omega⟩, ⟨by omega, by omega⟩, ?_⟩
          rw [hpi]
          refine c_collect hN _ v5 vm (by simp only [List.length_append]; omega) (fun v7 a5 am af a6 => ?_)
          have hpi7 : v7 (P + 3) i = A 8 i := by rw [af (P + 3) (by unfold z_ap at hap; omega)]; exact hpi
          refine ⟨⟨by omega, by omega⟩, by rw [hpi7]; constructor <;> omega, ⟨by omega, by omega⟩, ?_⟩
          rw [hpi7]
          refine c_collect hN _ a5 am (by simp only [List.length_append, List.length_cons, List.length_nil]; omega) (fun v11 b5 bm bf b6 => ?_)
          refine ⟨⟨by omega, by omega⟩, kk v11 ⟨?_, ?_, (vf.trans af).trans bf, b6.trans (a6.trans v6)⟩⟩
          · simpa using b5
          · simpa using bm
    · rintro i v i0 i1 ⟨v5, vm, vf, v6⟩ kk
      have hpv := hp.frN hap vf
      have ei : (i + 1 - 1).toNat = (i - 1).toNat + 1 := by omega
      have ej : (((i - 1).toNat : Nat) : Int) + 1 = i := by omega
      have l1 := L1 (A 2 0).toNat
      have l2 := L2 (i - 1).toNat
      rw [ei] at kk
      simp only [z_S2, ej] at kk
      refine t_X2_collectSteps_95 hN hP ⟨fun c => absurd c (by rw [hpv.2.1]; omega), fun _ => ⟨⟨by omega, by omega⟩, ?_⟩⟩
      rw [hpv.1]
      refine c_collect hN _ v5 vm (by simp only [List.length_append]; omega) (fun v7 a5 am af a6 => ?_)
      refine ⟨⟨by omega, by omega⟩, ?_⟩
      refine c_collect hN _ a5 am (by simp only [List.length_append, List.length_cons, List.length_nil]; omega) (fun v11 b5 bm bf b6 => ?_)
      refine ⟨⟨by omega, by omega⟩, kk v11 ⟨?_, ?_, (vf.trans af).trans bf, b6.trans (a6.trans v6)⟩⟩
      · simpa using b5
      · simpa using bm
  · rintro i v i0 i1 ⟨v5, vm, vf, v6⟩ kk
    have hpv := hp.frN hap vf
    obtain ⟨g3, g4, g5, g6, g7⟩ := hpv.2.2.2.1 i i0 i1
    obtain ⟨r3, r4, r34, r5, r6, r7⟩ := hgap i i0 i1
    have ei : (i + 1).toNat = i.toNat + 1 := by omega
    have ej : ((i.toNat : Nat) : Int) = i := by omega
    have l1 := L1 i.toNat
    rw [ei] at kk
    simp only [z_S1, ej] at kk
    refine t_X2_collectSteps_7 hN hP ⟨fun c => absurd c (by rw [hpv.2.2.1]; omega), fun _ => ⟨⟨by omega, by omega⟩, fun c => ?_, fun c => ⟨fun c2 => ?_, fun c2 => ?_⟩⟩⟩
    · rw [g7] at c
      refine ⟨⟨by omega, by omega⟩, kk v ?_⟩
      rw [if_pos (Or.inl c), List.append_nil]
      exact ⟨v5, vm, vf, v6⟩
    · refine ⟨⟨by omega, by omega⟩, kk v ?_⟩
      rw [if_pos (Or.inr c2), List.append_nil]
      exact ⟨v5, vm, vf, v6⟩
    · rw [g7] at c
      rw [if_neg (by rintro (q | q); exact c q; exact c2 q)] at kk
      refine ⟨⟨by omega, by omega⟩, fun y8 e8 => ⟨⟨by omega, by omega⟩, fun y10 e10 => ⟨⟨by omega, by omega⟩, fun y12 e12 => ⟨⟨by omega, by omega⟩, ?_, ?_⟩⟩⟩⟩
      · rw [g6]
        unfold s_X8_stepLength
        refine ⟨fun _ => ⟨⟨by omega, by omega⟩, True.intro⟩, True.intro⟩
      · rw [e8, e10, e12, g3, g4, g5, g6]
        rw [show f_X8_stepBegin v (A 3 i) (A 4 i) (A 5 i) = (z_gs A i).1 from rfl, show f_X8_stepFinish v (A 3 i) (A 4 i) (A 5 i) = (z_gs A i).2.1 from rfl, show f_X8_stepLength v (A 5 i) (A 6 i) = (z_gs A i).2.2.1 from rfl]
        refine c_collect hN _ v5 vm (by omega) (fun v7 a5 am af a6 => ?_)
        exact ⟨⟨by omega, by omega⟩, kk v7 ⟨a5, am, vf.trans af, a6.trans v6⟩⟩
