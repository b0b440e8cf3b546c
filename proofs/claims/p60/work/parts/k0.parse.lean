/-! THE READER OVER A TEXT THAT THE LAW WROTE -/
theorem z_rn_eq {g : Int → Prop} {a n e : Int} (h1 : a ≤ e) (h2 : e ≤ n) (h3 : ∀ i : Int, a ≤ i → i < e → g i) (h4 : e < n → ¬ g e) : z_rn g a n = e := z_rne_u (z_rn_is (Int.le_trans h1 h2)) ⟨h1, h2, h3, h4⟩
/-- the tape from p on is the list L, to its end -/
def z_tl0 (T : z_T) (p : Int) (L : List Int) : Prop := 0 ≤ p ∧ T.1 = p + (L.length : Int) ∧ ∀ (i : Nat) (x : Int), L[i]? = some x → T.2 (p + i) = x
theorem z_tl_cons {T : z_T} {p x : Int} {L : List Int} (h : z_tl0 T p (x :: L)) : T.2 p = x ∧ z_tl0 T (p + 1) L := by
  obtain ⟨h0, h1, h2⟩ := h
  refine ⟨?_, by omega, by rw [h1, List.length_cons]; omega, fun i y hy => ?_⟩
  · have := h2 0 x rfl
    rwa [show p + ((0 : Nat) : Int) = p by omega] at this
  · have := h2 (i + 1) y hy
    rwa [show p + ((i + 1 : Nat) : Int) = p + 1 + (i : Int) by omega] at this
theorem z_tl_app {T : z_T} : ∀ {K L : List Int} {p : Int}, z_tl0 T p (K ++ L) → (∀ (i : Nat) (x : Int), K[i]? = some x → T.2 (p + i) = x) ∧ z_tl0 T (p + (K.length : Int)) L := by
  intro K L p h
  obtain ⟨h0, h1, h2⟩ := h
  refine ⟨fun i x hx => h2 i x ?_, by omega, by rw [h1, List.length_append]; omega, fun i y hy => ?_⟩
  · rw [List.getElem?_append_left (List.getElem?_eq_some_iff.mp hx).1]; exact hx
  · have := h2 (K.length + i) y (by rw [List.getElem?_append_right (by omega), Nat.add_sub_cancel_left]; exact hy)
    rwa [show p + ((K.length + i : Nat) : Int) = p + (K.length : Int) + (i : Int) by omega] at this
theorem z_tl_end {T : z_T} {p : Int} (h : z_tl0 T p []) : z_tok T p = (T.1, T.1, 0, 0) := by
  have e : T.1 = p := by have := h.2.1; simpa using this
  exact z_tok0 (z_rn_eq (by omega) (by omega) (fun i i0 i1 => by omega) (fun c => absurd c (by omega)))
theorem z_tl_mark {T : z_T} {p : Int} {L : List Int} (h : z_tl0 T p (59 :: L)) : z_tok T p = (p, p + 1, 3, 0) := by
  have hl := h.2.1
  rw [List.length_cons] at hl
  obtain ⟨hx, -⟩ := z_tl_cons h
  have e : z_rn (z_spc T) p T.1 = p := z_rn_eq (by omega) (by omega) (fun i i0 i1 => by omega) (fun _ c => by
    unfold z_spc at c
    omega)
  have := z_tok3 (T := T) (p := p) (by rw [e]; omega) (by rw [e]; unfold z_ltr; omega) (by rw [e]; unfold z_dgt; omega)
  rw [e, hx] at this
  exact this
/-- a space before a token is passed over -/
theorem z_tl_skip {T : z_T} {p x : Int} {L : List Int} (h : z_tl0 T p (32 :: x :: L)) (hx : ¬ (x = 32 ∨ x = 10)) : z_tok T p = z_tok T (p + 1) := by
  have hl := h.2.1
  rw [List.length_cons, List.length_cons] at hl
  obtain ⟨h0, h1⟩ := z_tl_cons h
  obtain ⟨hx1, -⟩ := z_tl_cons h1
  have e0 : z_rn (z_spc T) p T.1 = p + 1 := z_rn_eq (by omega) (by omega) (fun i i0 i1 => by
    rw [show i = p by omega]
    exact Or.inl h0) (fun _ c => hx (hx1 ▸ c))
  have e1 : z_rn (z_spc T) (p + 1) T.1 = p + 1 := z_rn_eq (by omega) (by omega) (fun i i0 i1 => by omega) (fun _ c => hx (hx1 ▸ c))
  unfold z_tok
  rw [e0, e1]
/-- a word of at most five letters -/
theorem z_tl_word {T : z_T} {p y : Int} {K L : List Int} (h : z_tl0 T p (K ++ y :: L)) (hK : 1 ≤ K.length ∧ K.length ≤ 5) (hl : ∀ x ∈ K, 97 ≤ x ∧ x ≤ 122) (hy : y < 97) : z_tok T p = (p, p + (K.length : Int), 1, z_tw T p (K.length : Int)) := by
  have hn := h.2.1
  rw [List.length_append, List.length_cons] at hn
  obtain ⟨a1, a2⟩ := z_tl_app h
  obtain ⟨b1, -⟩ := z_tl_cons a2
  have l1 : ∀ i : Int, p ≤ i → i < p + (K.length : Int) → z_ltr T i := fun i i0 i1 => by
    have hi : (i - p).toNat < K.length := by omega
    have := a1 (i - p).toNat _ (List.getElem?_eq_getElem hi)
    rw [show p + ((i - p).toNat : Int) = i by omega] at this
    unfold z_ltr
    rw [this]
    exact hl _ (List.getElem_mem hi)
  have l0 := l1 p (Int.le_refl _) (by omega)
  have e0 : z_rn (z_spc T) p T.1 = p := z_rn_eq (by omega) (by omega) (fun i i0 i1 => by omega) (fun _ c => by
    unfold z_ltr at l0
    unfold z_spc at c
    omega)
  have e1 : z_rn (z_ltr T) p T.1 = p + (K.length : Int) := z_rn_eq (by omega) (by omega) l1 (fun _ c => by
    unfold z_ltr at c
    omega)
  have := z_tok1 (T := T) (p := p) (by rw [e0]; omega) (by rw [e0]; exact l0) (by rw [e0, e1]; omega)
  rw [e0, e1, show p + (K.length : Int) - p = (K.length : Int) by omega] at this
  exact this
/-- a number of at most three digits -/
theorem z_tl_num {T : z_T} {p y : Int} {K L : List Int} (h : z_tl0 T p (K ++ y :: L)) (hK : 1 ≤ K.length ∧ K.length ≤ 3) (hl : ∀ x ∈ K, 48 ≤ x ∧ x ≤ 57) (hy : y < 48 ∨ 57 < y) : z_tok T p = (p, p + (K.length : Int), 2, z_dec (fun i => T.2 (p + i)) K.length) := by
  have hn := h.2.1
  rw [List.length_append, List.length_cons] at hn
  obtain ⟨a1, a2⟩ := z_tl_app h
  obtain ⟨b1, -⟩ := z_tl_cons a2
  have l1 : ∀ i : Int, p ≤ i → i < p + (K.length : Int) → z_dgt T i := fun i i0 i1 => by
    have hi : (i - p).toNat < K.length := by omega
    have := a1 (i - p).toNat _ (List.getElem?_eq_getElem hi)
    rw [show p + ((i - p).toNat : Int) = i by omega] at this
    unfold z_dgt
    rw [this]
    exact hl _ (List.getElem_mem hi)
  have l0 := l1 p (Int.le_refl _) (by omega)
  have e0 : z_rn (z_spc T) p T.1 = p := z_rn_eq (by omega) (by omega) (fun i i0 i1 => by omega) (fun _ c => by
    unfold z_dgt at l0
    unfold z_spc at c
    omega)
  have e1 : z_rn (z_dgt T) p T.1 = p + (K.length : Int) := z_rn_eq (by omega) (by omega) l1 (fun _ c => by
    unfold z_dgt at c
    omega)
  have := z_tok2 (T := T) (p := p) (by rw [e0]; omega) (by rw [e0]; unfold z_dgt at l0; unfold z_ltr; omega) (by rw [e0]; exact l0) (by rw [e0, e1]; omega)
  rw [e0, e1, show (p + (K.length : Int) - p).toNat = K.length by omega] at this
  exact this
