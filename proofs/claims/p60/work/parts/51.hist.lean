/-- a plan with one more entry of the log -/
def z_note (A : z_A) (x y z : Int) : z_A := fun ch i =>
  if ch = 10 then (if A 10 0 = 40 then 40 else A 10 0 + 1)
  else if ch = 11 then (if i = min (A 10 0) 39 then x else if A 10 0 = 40 then A 11 (i + 1) else A 11 i)
  else if ch = 12 then (if i = min (A 10 0) 39 then y else if A 10 0 = 40 then A 12 (i + 1) else A 12 i)
  else if ch = 13 then (if i = min (A 10 0) 39 then z else if A 10 0 = 40 then A 13 (i + 1) else A 13 i)
  else A ch i
theorem z_note_lt {A : z_A} {x y z i : Int} {ch : Nat} (h : ch < 10) : z_note A x y z ch i = A ch i := by
  simp only [z_note]
  rw [if_neg (by omega), if_neg (by omega), if_neg (by omega), if_neg (by omega)]
theorem z_gs_note {A : z_A} {x y z g : Int} : z_gs (z_note A x y z) g = z_gs A g := by
  simp only [z_gs, z_note_lt (show 3 < 10 by decide), z_note_lt (show 4 < 10 by decide), z_note_lt (show 5 < 10 by decide), z_note_lt (show 6 < 10 by decide)]
/-- what two plans must share for steps, bounds and ranges -/
def z_eqg (A B : z_A) : Prop := A 0 0 = B 0 0 ∧ A 1 0 = B 1 0 ∧ A 2 0 = B 2 0 ∧ (∀ g : Int, 0 ≤ g → g < A 2 0 → A 3 g = B 3 g ∧ A 4 g = B 4 g ∧ A 5 g = B 5 g ∧ A 6 g = B 6 g ∧ A 7 g = B 7 g) ∧ ∀ e : Int, 0 ≤ e → e < A 1 0 → A 8 e = B 8 e
theorem z_eqg_note (A : z_A) (x y z : Int) : z_eqg A (z_note A x y z) := by
  refine ⟨(z_note_lt (by decide)).symm, (z_note_lt (by decide)).symm, (z_note_lt (by decide)).symm, fun g _ _ => ⟨(z_note_lt (by decide)).symm, (z_note_lt (by decide)).symm, (z_note_lt (by decide)).symm, (z_note_lt (by decide)).symm, (z_note_lt (by decide)).symm⟩, fun e _ _ => (z_note_lt (by decide)).symm⟩
theorem z_eqg.symm {A B : z_A} (h : z_eqg A B) : z_eqg B A := by
  obtain ⟨h0, h1, h2, h3, h4⟩ := h
  exact ⟨h0.symm, h1.symm, h2.symm, fun g g0 g1 => by obtain ⟨a, b, c, d, e⟩ := h3 g g0 (by omega); exact ⟨a.symm, b.symm, c.symm, d.symm, e.symm⟩, fun e e0 e1 => (h4 e e0 (by omega)).symm⟩
theorem z_eqg.S1 {A B : z_A} (h : z_eqg A B) {lo : Int} : ∀ {g : Nat}, (g : Int) ≤ A 2 0 → z_S1 A lo g = z_S1 B lo g
  | 0, _ => rfl
  | g + 1, hg => by
    obtain ⟨a, b, c, d, e⟩ := h.2.2.2.1 (g : Int) (by omega) (by omega)
    rw [z_S1, z_S1, z_eqg.S1 h (g := g) (by omega), e]
    simp only [z_gs, a, b, c, d]
theorem z_eqg.S2 {A B : z_A} (h : z_eqg A B) : ∀ {e : Nat}, z_S2 A e = z_S2 B e
  | 0 => rfl
  | e + 1 => by rw [z_S2, z_S2, z_eqg.S2 h (e := e), h.1]
theorem z_eqg.S3 {A B : z_A} (h : z_eqg A B) : ∀ {e : Nat}, (e : Int) ≤ A 1 0 - 1 → z_S3 A e = z_S3 B e
  | 0, _ => rfl
  | e + 1, he => by rw [z_S3, z_S3, z_eqg.S3 h (e := e) (by omega), h.2.2.2.2 ((e : Int) + 1) (by omega) (by omega)]
theorem z_eqg.Sx {A B : z_A} (h : z_eqg A B) (hA : z_okg A) (lo : Int) : z_Sx A lo = z_Sx B lo := by
  unfold z_Sx
  have h1 := hA.2.1
  have h2 := hA.2.2.1
  rw [← h.2.2.1, ← h.2.1, h.S1 (by omega), h.S2, h.S3 (by omega)]
theorem z_eqg.okg {A B : z_A} (h : z_eqg A B) (hA : z_okg A) : z_okg B := by
  obtain ⟨a1, a2, a3, a4, a5, a6⟩ := hA
  obtain ⟨h0, h1, h2, h3, h4⟩ := h
  refine ⟨by rw [← h0]; exact a1, by rw [← h1]; exact a2, by rw [← h2]; exact a3, fun g g0 g1 => ?_, fun e e0 e1 => ?_, ?_⟩
  · obtain ⟨a, b, c, d, e⟩ := h3 g g0 (by omega)
    rw [← a, ← b, ← c, ← d, ← e, ← h1]
    exact a4 g g0 (by omega)
  · rw [← h4 e e0 (by omega)]
    exact a5 e e0 (by omega)
  · rw [← h4 0 (by omega) (by omega)]
    exact a6
theorem z_eqg.F {A B : z_A} (h : z_eqg A B) {lo : Int} {x : Int → Int} (hx : z_F A lo x) : z_F B lo x := by
  obtain ⟨f1, f2, f3⟩ := hx
  obtain ⟨h0, h1, h2, h3, h4⟩ := h
  refine ⟨fun g g0 g1 g2 g3 => ?_, fun e e0 e1 => ?_, fun e e0 e1 e2 => ?_⟩
  · obtain ⟨a, b, c, d, e⟩ := h3 g g0 (by omega)
    have := f1 g g0 (by omega) (by rw [e]; exact g2) g3
    unfold z_Fg at this ⊢
    rw [a, b, c, d] at this
    exact this
  · rw [← h0]; exact f2 e e0 (by omega)
  · rw [← h4 e (by omega) (by omega)]
    exact f3 e e0 (by omega) (by rw [h4 e (by omega) (by omega)]; exact e2)
theorem z_eqg.bears {A B : z_A} (h : z_eqg A B) (hb : z_bears A) : z_bears B := by
  obtain ⟨x, hx⟩ := hb
  exact ⟨x, h.F hx⟩
theorem z_eqg.net {A B : z_A} (h : z_eqg A B) (hA : z_okg A) {w : z_Mm} {N : Nat} {lo : Int} (hn : z_net w N A lo) : z_net w N B lo := by
  unfold z_net
  rw [← h.Sx hA lo, ← h.2.1]
  exact hn
theorem z_okg_note {A : z_A} {x y z : Int} (h : z_okg A) : z_okg (z_note A x y z) := (z_eqg_note A x y z).okg h
theorem z_ok_note {A : z_A} {x y z : Int} (h : z_ok A) : z_ok (z_note A x y z) := by
  obtain ⟨h1, h2, h3, h4, h5⟩ := h
  refine ⟨z_okg_note h1, (z_eqg_note A x y z).bears h2, fun e e0 e1 => ?_, ?_, ?_⟩
  · rw [z_note_lt (by decide)] at e1 ⊢
    exact h3 e e0 e1
  · rw [z_note_lt (by decide)]; exact h4
  · simp only [z_note, if_pos]
    split <;> omega
theorem z_tm {a n : Int} (h : 0 ≤ a) : a.tmod n = a % n := Int.tmod_eq_emod_of_nonneg h
theorem c_note {sh : List z_C} {w : z_Mm} {a : Nat} {A : z_A} {x y z : Int} {K : z_Mm → Prop} (ha : z_isLog sh a) (hl : z_lg w a A)
    (k : ∀ w', z_lg w' a (z_note A x y z) → (∀ c : Nat, c ≠ a → c ≠ a + 1 → w' c = w c) → K w') : z_CV mX1_note [z_r a, z_i x, z_i y, z_i z] sh w K := by
  obtain ⟨h1, h2, h3, h4⟩ := hl
  have e10 : z_note A x y z 10 0 = if A 10 0 = 40 then 40 else A 10 0 + 1 := rfl
  refine z_CVi (t_X1_note ha ⟨fun c => ?_, fun c => ?_⟩)
  · rw [h2] at c
    rw [z_tm (by omega)]
    refine ⟨⟨by omega, by omega⟩, fun w16 e16 => ?_⟩
    have b1 : w16 a 1 = (w a 1 + 1) % 40 := by rw [e16, z_W_same]
    have b2 : w16 a 2 = 40 := by rw [e16, z_W_ne (Or.inr (by decide)), h2, c]
    rw [b2]
    refine ⟨⟨by omega, by omega⟩, fun w18 e18 => ?_⟩
    have c1 : w18 a 1 = (w a 1 + 1) % 40 := by rw [e18, z_W_ne (Or.inr (by decide)), b1]
    have c2 : w18 a 2 = 39 := by rw [e18, z_W_same]; rfl
    have c3 : w18 (a + 1) = w (a + 1) := by rw [e18, z_Wf (by omega), e16, z_Wf (by omega)]
    rw [c1, c2, z_tm (by omega)]
    refine ⟨⟨by omega, by omega⟩, ⟨by omega, by omega⟩, fun y21 e21 => ⟨⟨by omega, by omega⟩, fun w22 e22 => ⟨⟨by omega, by omega⟩, ⟨by omega, by omega⟩, fun w25 e25 => ⟨⟨by omega, by omega⟩, ⟨by omega, by omega⟩, fun w28 e28 => ?_⟩⟩⟩⟩
    have d2 : w28 a 2 = 39 := by rw [e28, z_W_ne (Or.inl (by omega)), e25, z_W_ne (Or.inl (by omega)), e22, z_W_ne (Or.inl (by omega)), c2]
    have d1 : w28 a 1 = (w a 1 + 1) % 40 := by rw [e28, z_W_ne (Or.inl (by omega)), e25, z_W_ne (Or.inl (by omega)), e22, z_W_ne (Or.inl (by omega)), c1]
    rw [d2]
    refine ⟨⟨by omega, by omega⟩, fun w31 e31 => ⟨w31, rfl, rfl, k w31 ⟨?_, ?_, ?_, fun i i0 i1 => ?_⟩ (fun b hb hb1 => ?_)⟩⟩
    · rw [e10]; split <;> omega
    · rw [e10, if_pos c, e31, z_W_same]; rfl
    · rw [e31, z_W_ne (Or.inr (by decide)), d1]; omega
    · have g1 : w31 a 1 = (w a 1 + 1) % 40 := by rw [e31, z_W_ne (Or.inr (by decide)), d1]
      have g3 : w31 (a + 1) = w28 (a + 1) := by rw [e31, z_Wf (by omega)]
      rw [g1, g3]
      rw [e10, if_pos c] at i1
      have hn : z_note A x y z 11 i = (if i = 39 then x else A 11 (i + 1)) ∧ z_note A x y z 12 i = (if i = 39 then y else A 12 (i + 1)) ∧ z_note A x y z 13 i = (if i = 39 then z else A 13 (i + 1)) := by
        simp only [z_note, c]
        exact ⟨rfl, rfl, rfl⟩
      rw [hn.1, hn.2.1, hn.2.2]
      by_cases hi : i = 39
      · subst hi
        rw [if_pos rfl, if_pos rfl, if_pos rfl]
        have e : (((w a 1 + 1) % 40 + 39) % 40) * 3 = y21 := by omega
        rw [e, e28, z_W_ne (Or.inr (by omega)), z_W_ne (Or.inr (by omega)), z_W_same, e25, z_W_ne (Or.inr (by omega)), z_W_same, e22, z_W_same]
        exact ⟨rfl, rfl, rfl⟩
      · rw [if_neg hi, if_neg hi, if_neg hi]
        have e : (((w a 1 + 1) % 40 + i) % 40) * 3 = (w a 1 + (i + 1)) % 40 * 3 := by omega
        have en : (((w a 1 + 1) % 40 + i) % 40) * 3 ≠ y21 := by omega
        have q := h4 (i + 1) (by omega) (by omega)
        rw [← e] at q
        rw [e28, z_W_ne (Or.inr (by omega)), z_W_ne (Or.inr (by omega)), z_W_ne (Or.inr (by omega)), e25, z_W_ne (Or.inr (by omega)), z_W_ne (Or.inr (by omega)), z_W_ne (Or.inr (by omega)), e22, z_W_ne (Or.inr (by omega)), z_W_ne (Or.inr (by omega)), z_W_ne (Or.inr (by omega)), c3]
        exact q
    · rw [e31, z_Wf hb, e28, z_Wf hb1, e25, z_Wf hb1, e22, z_Wf hb1, e18, z_Wf hb, e16, z_Wf hb]
  · rw [h2] at c
    rw [h2, z_tm (by omega)]
    refine ⟨⟨by omega, by omega⟩, ⟨by omega, by omega⟩, fun y4 e4 => ⟨⟨by omega, by omega⟩, fun w5 e5 => ⟨⟨by omega, by omega⟩, ⟨by omega, by omega⟩, fun w8 e8 => ⟨⟨by omega, by omega⟩, ⟨by omega, by omega⟩, fun w11 e11 => ?_⟩⟩⟩⟩
    have d2 : w11 a 2 = A 10 0 := by rw [e11, z_W_ne (Or.inl (by omega)), e8, z_W_ne (Or.inl (by omega)), e5, z_W_ne (Or.inl (by omega)), h2]
    have d1 : w11 a 1 = w a 1 := by rw [e11, z_W_ne (Or.inl (by omega)), e8, z_W_ne (Or.inl (by omega)), e5, z_W_ne (Or.inl (by omega))]
    rw [d2]
    refine ⟨⟨by omega, by omega⟩, fun w14 e14 => ⟨w14, rfl, rfl, k w14 ⟨?_, ?_, ?_, fun i i0 i1 => ?_⟩ (fun b hb hb1 => ?_)⟩⟩
    · rw [e10]; split <;> omega
    · rw [e10, if_neg c, e14, z_W_same]
    · rw [e14, z_W_ne (Or.inr (by decide)), d1]; exact h3
    · have g1 : w14 a 1 = w a 1 := by rw [e14, z_W_ne (Or.inr (by decide)), d1]
      have g3 : w14 (a + 1) = w11 (a + 1) := by rw [e14, z_Wf (by omega)]
      rw [g1, g3]
      rw [e10, if_neg c] at i1
      have hm : min (A 10 0) 39 = A 10 0 := by omega
      have hn : z_note A x y z 11 i = (if i = A 10 0 then x else A 11 i) ∧ z_note A x y z 12 i = (if i = A 10 0 then y else A 12 i) ∧ z_note A x y z 13 i = (if i = A 10 0 then z else A 13 i) := by
        simp only [z_note, hm, if_neg c]
        exact ⟨rfl, rfl, rfl⟩
      rw [hn.1, hn.2.1, hn.2.2]
      by_cases hi : i = A 10 0
      · subst hi
        rw [if_pos rfl, if_pos rfl, if_pos rfl, ← e4]
        rw [e11, z_W_ne (Or.inr (by omega)), z_W_ne (Or.inr (by omega)), z_W_same, e8, z_W_ne (Or.inr (by omega)), z_W_same, e5, z_W_same]
        exact ⟨rfl, rfl, rfl⟩
      · rw [if_neg hi, if_neg hi, if_neg hi]
        have en : (w a 1 + i) % 40 * 3 ≠ y4 := by omega
        have q := h4 i i0 (by omega)
        rw [e11, z_W_ne (Or.inr (by omega)), z_W_ne (Or.inr (by omega)), z_W_ne (Or.inr (by omega)), e8, z_W_ne (Or.inr (by omega)), z_W_ne (Or.inr (by omega)), z_W_ne (Or.inr (by omega)), e5, z_W_ne (Or.inr (by omega)), z_W_ne (Or.inr (by omega)), z_W_ne (Or.inr (by omega))]
        exact q
    · rw [e14, z_Wf hb, e11, z_Wf hb1, e8, z_Wf hb1, e5, z_Wf hb1]
/-! the class's history -/
def z_push (H : List z_A) (A : z_A) : List z_A := (if H.length = 8 then H.drop 1 else H) ++ [A]
theorem z_push_len {H : List z_A} {A : z_A} (h : H.length ≤ 8) : (z_push H A).length ≤ 8 := by
  simp only [z_push, List.length_append, List.length_cons, List.length_nil]
  split
  · simp; omega
  · omega
def z_hr (w : z_Mm) (H : List z_A) : Prop := H.length ≤ 8 ∧ w 24 2 = (H.length : Int) ∧ (0 ≤ w 24 1 ∧ w 24 1 < 8) ∧ ∀ (k : Nat) (A : z_A), H[k]? = some A → z_pr w (26 + 11 * ((w 24 1 + k) % 8).toNat) A
theorem z_hr.fr {w w' : z_Mm} {H : List z_A} (h : z_hr w H) (hok : ∀ A ∈ H, z_okg A) (hf : ∀ a : Nat, 24 ≤ a → a ≤ 113 → w' a = w a) : z_hr w' H := by
  obtain ⟨h1, h2, h3, h4⟩ := h
  unfold z_hr
  rw [hf 24 (by omega) (by omega)]
  refine ⟨h1, h2, h3, fun k A hk => (h4 k A hk).fr (hok A (List.mem_of_getElem? hk)) (fun a a0 a1 => hf a (by omega) (by omega))⟩
theorem c_remember {sh : List z_C} {w : z_Mm} {H : List z_A} {A : z_A} {K : z_Mm → Prop} (hT : z_isTG sh 0) (hh : z_hr w H) (hok : ∀ B ∈ H, z_okg B) (hA : z_okg A) (hp : z_pr w 1 A)
    (k : ∀ w', z_hr w' (z_push H A) → (∀ a : Nat, (a < 24 ∨ 113 < a) → w' a = w a) → K w') : z_CV mX0_remember [z_r 24, z_r 1] sh w K := by
  have hH : z_isHis sh 24 := hT.2.2.2.2.1
  have hP : z_isPla sh 1 := hT.2.1
  obtain ⟨h1, h2, h3, h4⟩ := hh
  refine z_CVi (t_X0_remember hH hP ⟨fun c => ?_, fun c => ?_⟩)
  · have h8 : H.length = 8 := by omega
    rw [z_tm (by omega)]
    refine ⟨⟨by omega, by omega⟩, fun w8 e8 => ?_⟩
    have b1 : w8 24 1 = (w 24 1 + 1) % 8 := by rw [e8, z_W_same]
    have b2 : w8 24 2 = 8 := by rw [e8, z_W_ne (Or.inr (by decide)), c]
    rw [b2]
    refine ⟨⟨by omega, by omega⟩, fun w10 e10 => ?_⟩
    have c1 : w10 24 1 = (w 24 1 + 1) % 8 := by rw [e10, z_W_ne (Or.inr (by decide)), b1]
    have c2 : w10 24 2 = 7 := by rw [e10, z_W_same]; rfl
    rw [c1, c2, z_tm (by omega)]
    have hf10 : ∀ a : Nat, a ≠ 24 → w10 a = w a := fun a ha => by rw [e10, z_Wf ha, e8, z_Wf ha]
    have hp10 : z_pr w10 1 A := hp.fr hA (fun a a0 a1 => hf10 a (by omega))
    obtain ⟨s, hs⟩ : ∃ s : Nat, s = (((w 24 1 + 1) % 8 + 7) % 8).toNat := ⟨_, rfl⟩
    rw [← hs]
    have hs8 : s < 8 := by omega
    refine ⟨⟨by omega, by omega⟩, ⟨by omega, by omega⟩, ?_⟩
    refine c_planCopy (hH.2.2 s hs8) hP (by unfold z_apP; omega) hp10.2.2.2 (fun w13 hc hf => ?_)
    have d2 : w13 24 2 = 7 := by rw [hf 24 (by omega), c2]
    have d1 : w13 24 1 = (w 24 1 + 1) % 8 := by rw [hf 24 (by omega), c1]
    rw [d2]
    refine ⟨⟨by omega, by omega⟩, fun w15 e15 => ⟨w15, rfl, rfl, k w15 ⟨?_, ?_, ?_, fun j B hj => ?_⟩ (fun a ha => ?_)⟩⟩
    · exact z_push_len h1
    · rw [e15, z_W_same]; simp [z_push, h8]
    · rw [e15, z_W_ne (Or.inr (by decide)), d1]; omega
    · have g1 : w15 24 1 = (w 24 1 + 1) % 8 := by rw [e15, z_W_ne (Or.inr (by decide)), d1]
      rw [g1]
      simp only [z_push, if_pos h8] at hj
      by_cases hj7 : j < 7
      · rw [List.getElem?_append_left (by simp; omega), List.getElem?_drop] at hj
        have q := h4 (1 + j) B hj
        have e : (((w 24 1 + 1) % 8 + (j : Int)) % 8).toNat = ((w 24 1 + ((1 + j : Nat) : Int)) % 8).toNat := by omega
        rw [e]
        refine q.fr (hok B (List.mem_of_getElem? hj)) (fun a a0 a1 => ?_)
        rw [e15, z_Wf (by omega), hf a (by omega), hf10 a (by omega)]
      · have hj' : j = 7 := by
          have := (List.getElem?_eq_some_iff.mp hj).1
          simp [h8] at this
          omega
        subst hj'
        rw [List.getElem?_append_right (by simp [h8])] at hj
        simp [h8] at hj
        subst hj
        have e : (((w 24 1 + 1) % 8 + ((7 : Nat) : Int)) % 8).toNat = s := by omega
        rw [e]
        exact (hp10.s11 hA hc).fr hA (fun a a0 a1 => by rw [e15, z_Wf (by omega)])
    · rw [e15, z_Wf (by omega), hf a (by omega), hf10 a (by omega)]
  · rw [h2] at c
    rw [h2, z_tm (by omega)]
    obtain ⟨s, hs⟩ : ∃ s : Nat, s = ((w 24 1 + (H.length : Int)) % 8).toNat := ⟨_, rfl⟩
    rw [← hs]
    have hs8 : s < 8 := by omega
    refine ⟨⟨by omega, by omega⟩, ⟨by omega, by omega⟩, ?_⟩
    refine c_planCopy (hH.2.2 s hs8) hP (by unfold z_apP; omega) hp.2.2.2 (fun w4 hc hf => ?_)
    have d2 : w4 24 2 = (H.length : Int) := by rw [hf 24 (by omega), h2]
    have d1 : w4 24 1 = w 24 1 := by rw [hf 24 (by omega)]
    rw [d2]
    have h8 : ¬ H.length = 8 := by omega
    refine ⟨⟨by omega, by omega⟩, fun w6 e6 => ⟨w6, rfl, rfl, k w6 ⟨?_, ?_, ?_, fun j B hj => ?_⟩ (fun a ha => ?_)⟩⟩
    · exact z_push_len h1
    · rw [e6, z_W_same]; simp [z_push, h8]
    · rw [e6, z_W_ne (Or.inr (by decide)), d1]; exact h3
    · have g1 : w6 24 1 = w 24 1 := by rw [e6, z_W_ne (Or.inr (by decide)), d1]
      rw [g1]
      simp only [z_push, if_neg h8] at hj
      by_cases hjl : j < H.length
      · rw [List.getElem?_append_left hjl] at hj
        refine (h4 j B hj).fr (hok B (List.mem_of_getElem? hj)) (fun a a0 a1 => ?_)
        rw [e6, z_Wf (by omega), hf a (by omega)]
      · rw [List.getElem?_append_right (by omega)] at hj
        have hz : j - H.length < 1 := (List.getElem?_eq_some_iff.mp hj).1
        have : j = H.length := by omega
        subst this
        rw [Nat.sub_self] at hj
        cases hj
        rw [← hs]
        exact (hp.s11 hA hc).fr hA (fun a a0 a1 => by rw [e6, z_Wf (by omega)])
    · rw [e6, z_Wf (by omega), hf a (by omega)]
theorem c_bringBack {sh : List z_C} {w : z_Mm} {H : List z_A} {B : z_A} {K : z_Mm → Prop} (hT : z_isTG sh 0) (hh : z_hr w (H ++ [B])) (hok : ∀ C ∈ H, z_okg C) (hB : z_okg B)
    (k : ∀ w', z_hr w' H → z_pr w' 1 B → (∀ a : Nat, a ≠ 24 → (a < 1 ∨ 11 < a) → w' a = w a) → K w') : z_CV mX0_bringBack [z_r 24, z_r 1] sh w K := by
  have hH : z_isHis sh 24 := hT.2.2.2.2.1
  have hP : z_isPla sh 1 := hT.2.1
  obtain ⟨h1, h2, h3, h4⟩ := hh
  have hl : (H ++ [B]).length = H.length + 1 := by simp
  rw [hl] at h1 h2
  refine z_CVi (t_X0_bringBack hH hP ⟨fun c => absurd c (by omega), fun _ => ?_⟩)
  rw [h2]
  refine ⟨⟨by omega, by omega⟩, fun w3 e3 => ?_⟩
  have b1 : w3 24 1 = w 24 1 := by rw [e3, z_W_ne (Or.inr (by decide))]
  have b2 : w3 24 2 = (H.length : Int) := by rw [e3, z_W_same]; omega
  rw [b1, b2, z_tm (by omega)]
  obtain ⟨s, hs⟩ : ∃ s : Nat, s = ((w 24 1 + (H.length : Int)) % 8).toNat := ⟨_, rfl⟩
  rw [← hs]
  have hs8 : s < 8 := by omega
  have hq : z_pr w (26 + 11 * s) B := by
    rw [hs]
    exact h4 H.length B (by simp)
  have hq3 : z_pr w3 (26 + 11 * s) B := hq.fr hB (fun a a0 a1 => by rw [e3, z_Wf (by omega)])
  refine ⟨⟨by omega, by omega⟩, ⟨by omega, by omega⟩, ?_⟩
  refine c_planCopy hP (hH.2.2 s hs8) (by unfold z_apP; omega) hq3.2.2.2 (fun w6 hc hf => ?_)
  refine ⟨w6, rfl, rfl, k w6 ⟨by omega, ?_, ?_, fun j C hj => ?_⟩ (hq3.s11 hB hc) (fun a ha ha1 => ?_)⟩
  · rw [hf 24 (by omega), b2]
  · rw [hf 24 (by omega), b1]; exact h3
  · rw [hf 24 (by omega), b1]
    have hjl := (List.getElem?_eq_some_iff.mp hj).1
    refine (h4 j C (by rw [List.getElem?_append_left hjl]; exact hj)).fr (hok C (List.mem_of_getElem? hj)) (fun a a0 a1 => ?_)
    rw [hf a (by omega), e3, z_Wf (by omega)]
  · rw [hf a (by omega), e3, z_Wf ha]
