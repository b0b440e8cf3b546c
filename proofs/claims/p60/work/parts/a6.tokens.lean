/-! TOKENS -/
def z_dec (f : Int → Int) : Nat → Int
  | 0 => 0
  | k + 1 => 10 * z_dec f k + (f (k : Int) - 48)
theorem z_dec_R {f : Int → Int} : ∀ k : Nat, (∀ i : Int, 0 ≤ i → i < k → 48 ≤ f i ∧ f i ≤ 57) → k ≤ 3 → 0 ≤ z_dec f k ∧ z_dec f k < 10 ^ k
  | 0, _, _ => ⟨Int.le_refl _, show (0 : Int) < 10 ^ 0 by decide⟩
  | k + 1, h, hk => by
    have ih := z_dec_R k (fun i i0 i1 => h i i0 (by omega)) (by omega)
    have := h (k : Int) (by omega) (by omega)
    rw [z_dec]
    have hk' : k = 0 ∨ k = 1 ∨ k = 2 := by omega
    rcases hk' with rfl | rfl | rfl
    · have e : (10 : Int) ^ 0 = 1 := by decide
      have e' : (10 : Int) ^ (0 + 1) = 10 := by decide
      rw [e] at ih
      rw [e']
      omega
    · have e : (10 : Int) ^ 1 = 10 := by decide
      have e' : (10 : Int) ^ (1 + 1) = 100 := by decide
      rw [e] at ih
      rw [e']
      omega
    · have e : (10 : Int) ^ 2 = 100 := by decide
      have e' : (10 : Int) ^ (2 + 1) = 1000 := by decide
      rw [e] at ih
      rw [e']
      omega
theorem z_dec_9 {f : Int → Int} {k : Nat} (h : ∀ i : Int, 0 ≤ i → i < k → 48 ≤ f i ∧ f i ≤ 57) (hk : k ≤ 3) : 0 ≤ z_dec f k ∧ z_dec f k ≤ 999 := by
  have := z_dec_R k h hk
  have hk' : k = 0 ∨ k = 1 ∨ k = 2 ∨ k = 3 := by omega
  rcases hk' with rfl | rfl | rfl | rfl
  · rw [show (10 : Int) ^ 0 = 1 by decide] at this; omega
  · rw [show (10 : Int) ^ 1 = 10 by decide] at this; omega
  · rw [show (10 : Int) ^ 2 = 100 by decide] at this; omega
  · rw [show (10 : Int) ^ 3 = 1000 by decide] at this; omega
/-- start, end, kind (0 none, 1 word, 2 number, 3 mark, 4 bad, 5 long word), value -/
abbrev z_K4 : Type := Int × Int × Int × Int
noncomputable def z_tok (T : z_T) (p : Int) : z_K4 :=
  if z_rn (z_spc T) p T.1 = T.1 then (T.1, T.1, 0, 0)
  else @ite _ (z_ltr T (z_rn (z_spc T) p T.1)) (Classical.propDecidable _)
    (if z_rn (z_ltr T) (z_rn (z_spc T) p T.1) T.1 - z_rn (z_spc T) p T.1 ≤ 5 then (z_rn (z_spc T) p T.1, z_rn (z_ltr T) (z_rn (z_spc T) p T.1) T.1, 1, z_tw T (z_rn (z_spc T) p T.1) (z_rn (z_ltr T) (z_rn (z_spc T) p T.1) T.1 - z_rn (z_spc T) p T.1)) else (z_rn (z_spc T) p T.1, z_rn (z_ltr T) (z_rn (z_spc T) p T.1) T.1, 5, 0))
    (@ite _ (z_dgt T (z_rn (z_spc T) p T.1)) (Classical.propDecidable _)
      (if z_rn (z_dgt T) (z_rn (z_spc T) p T.1) T.1 - z_rn (z_spc T) p T.1 ≤ 3 then (z_rn (z_spc T) p T.1, z_rn (z_dgt T) (z_rn (z_spc T) p T.1) T.1, 2, z_dec (fun i => T.2 (z_rn (z_spc T) p T.1 + i)) (z_rn (z_dgt T) (z_rn (z_spc T) p T.1) T.1 - z_rn (z_spc T) p T.1).toNat) else (z_rn (z_spc T) p T.1, z_rn (z_dgt T) (z_rn (z_spc T) p T.1) T.1, 4, 0))
      (z_rn (z_spc T) p T.1, z_rn (z_spc T) p T.1 + 1, if T.2 (z_rn (z_spc T) p T.1) = 59 then 3 else 4, 0))
/-- what a token may be -/
def z_tkk (T : z_T) (τ : z_K4) : Prop := (0 ≤ τ.1 ∧ τ.1 ≤ τ.2.1 ∧ τ.2.1 ≤ T.1) ∧ (0 ≤ τ.2.2.1 ∧ τ.2.2.1 ≤ 5) ∧ (τ.2.2.1 = 1 → z_lts T τ.1 (τ.2.1 - τ.1) ∧ τ.2.2.2 = z_tw T τ.1 (τ.2.1 - τ.1)) ∧
  (τ.2.2.1 = 2 → (τ.2.1 - τ.1 ≤ 3 ∧ (∀ i : Int, 0 ≤ i → i < τ.2.1 - τ.1 → 48 ≤ T.2 (τ.1 + i) ∧ T.2 (τ.1 + i) ≤ 57)) ∧ τ.2.2.2 = z_dec (fun i => T.2 (τ.1 + i)) (τ.2.1 - τ.1).toNat ∧ 0 ≤ τ.2.2.2 ∧ τ.2.2.2 ≤ 999)
/-- the token in the class's reader -/
def z_ctk (w : z_Mm) (τ : z_K4) : Prop := w 139 4 = τ.1 ∧ w 139 5 = τ.2.1 - τ.1 ∧ w 139 3 = (if τ.2.2.1 = 0 then 0 else if τ.2.2.1 = 1 then 2 else if τ.2.2.1 = 2 then 3 else if τ.2.2.1 = 3 then 4 else 1)
/-- the token in the reference -/
def z_rtk (w : z_Mm) (τ : z_K4) : Prop := w 161 16 = τ.1 ∧ w 161 15 = τ.2.1 ∧ w 161 17 = (if τ.2.2.1 = 5 then 1 else τ.2.2.1) ∧ (τ.2.2.1 = 1 → w 161 18 = τ.2.2.2) ∧ (τ.2.2.1 = 5 → w 161 18 = 0) ∧ (τ.2.2.1 = 2 → w 161 19 = τ.2.2.2)
section ZTK
variable {T : z_T} {p : Int}
theorem z_tok0 (h : z_rn (z_spc T) p T.1 = T.1) : z_tok T p = (T.1, T.1, 0, 0) := by
  unfold z_tok
  rw [if_pos h]
theorem z_tok1 (h : ¬ z_rn (z_spc T) p T.1 = T.1) (hl : z_ltr T (z_rn (z_spc T) p T.1)) (h5 : z_rn (z_ltr T) (z_rn (z_spc T) p T.1) T.1 - z_rn (z_spc T) p T.1 ≤ 5) : z_tok T p = (z_rn (z_spc T) p T.1, z_rn (z_ltr T) (z_rn (z_spc T) p T.1) T.1, 1, z_tw T (z_rn (z_spc T) p T.1) (z_rn (z_ltr T) (z_rn (z_spc T) p T.1) T.1 - z_rn (z_spc T) p T.1)) := by
  unfold z_tok
  rw [if_neg h, if_pos hl, if_pos h5]
theorem z_tok5 (h : ¬ z_rn (z_spc T) p T.1 = T.1) (hl : z_ltr T (z_rn (z_spc T) p T.1)) (h5 : ¬ z_rn (z_ltr T) (z_rn (z_spc T) p T.1) T.1 - z_rn (z_spc T) p T.1 ≤ 5) : z_tok T p = (z_rn (z_spc T) p T.1, z_rn (z_ltr T) (z_rn (z_spc T) p T.1) T.1, 5, 0) := by
  unfold z_tok
  rw [if_neg h, if_pos hl, if_neg h5]
theorem z_tok2 (h : ¬ z_rn (z_spc T) p T.1 = T.1) (hl : ¬ z_ltr T (z_rn (z_spc T) p T.1)) (hd : z_dgt T (z_rn (z_spc T) p T.1)) (h3 : z_rn (z_dgt T) (z_rn (z_spc T) p T.1) T.1 - z_rn (z_spc T) p T.1 ≤ 3) : z_tok T p = (z_rn (z_spc T) p T.1, z_rn (z_dgt T) (z_rn (z_spc T) p T.1) T.1, 2, z_dec (fun i => T.2 (z_rn (z_spc T) p T.1 + i)) (z_rn (z_dgt T) (z_rn (z_spc T) p T.1) T.1 - z_rn (z_spc T) p T.1).toNat) := by
  unfold z_tok
  rw [if_neg h, if_neg hl, if_pos hd, if_pos h3]
theorem z_tok4 (h : ¬ z_rn (z_spc T) p T.1 = T.1) (hl : ¬ z_ltr T (z_rn (z_spc T) p T.1)) (hd : z_dgt T (z_rn (z_spc T) p T.1)) (h3 : ¬ z_rn (z_dgt T) (z_rn (z_spc T) p T.1) T.1 - z_rn (z_spc T) p T.1 ≤ 3) : z_tok T p = (z_rn (z_spc T) p T.1, z_rn (z_dgt T) (z_rn (z_spc T) p T.1) T.1, 4, 0) := by
  unfold z_tok
  rw [if_neg h, if_neg hl, if_pos hd, if_neg h3]
theorem z_tok3 (h : ¬ z_rn (z_spc T) p T.1 = T.1) (hl : ¬ z_ltr T (z_rn (z_spc T) p T.1)) (hd : ¬ z_dgt T (z_rn (z_spc T) p T.1)) : z_tok T p = (z_rn (z_spc T) p T.1, z_rn (z_spc T) p T.1 + 1, if T.2 (z_rn (z_spc T) p T.1) = 59 then 3 else 4, 0) := by
  unfold z_tok
  rw [if_neg h, if_neg hl, if_neg hd]
theorem z_tkk_tok (p0 : 0 ≤ p) (p1 : p ≤ T.1) : z_tkk T (z_tok T p) := by
  obtain ⟨s1, s2, s3, s4⟩ := z_rn_is (g := z_spc T) p1
  by_cases h : z_rn (z_spc T) p T.1 = T.1
  · rw [z_tok0 h]
    exact ⟨⟨by show 0 ≤ T.1; omega, Int.le_refl _, Int.le_refl _⟩, ⟨Int.le_refl _, show (0 : Int) ≤ 5 by decide⟩, fun c => absurd c (show ¬ (0 : Int) = 1 by decide), fun c => absurd c (show ¬ (0 : Int) = 2 by decide)⟩
  · by_cases hl : z_ltr T (z_rn (z_spc T) p T.1)
    · obtain ⟨e1, e2, e3, e4⟩ := z_rn_is (g := z_ltr T) s2
      have e5 : z_rn (z_spc T) p T.1 < z_rn (z_ltr T) (z_rn (z_spc T) p T.1) T.1 := by
        rcases Int.lt_or_eq_of_le e1 with q | q
        · exact q
        · exact absurd (by rw [q] at hl; exact hl) (e4 (by omega))
      by_cases h5 : z_rn (z_ltr T) (z_rn (z_spc T) p T.1) T.1 - z_rn (z_spc T) p T.1 ≤ 5
      · rw [z_tok1 h hl h5]
        have hlr : z_lts T (z_rn (z_spc T) p T.1) (z_rn (z_ltr T) (z_rn (z_spc T) p T.1) T.1 - z_rn (z_spc T) p T.1) := z_lts_run (by omega) s2 (by omega) h5 (by omega)
        exact ⟨⟨by omega, e1, e2⟩, ⟨show (0 : Int) ≤ 1 by decide, show (1 : Int) ≤ 5 by decide⟩, fun _ => ⟨hlr, rfl⟩, fun c => absurd c (show ¬ (1 : Int) = 2 by decide)⟩
      · rw [z_tok5 h hl h5]
        exact ⟨⟨by omega, e1, e2⟩, ⟨show (0 : Int) ≤ 5 by decide, Int.le_refl _⟩, fun c => absurd c (show ¬ (5 : Int) = 1 by decide), fun c => absurd c (show ¬ (5 : Int) = 2 by decide)⟩
    · by_cases hd : z_dgt T (z_rn (z_spc T) p T.1)
      · obtain ⟨e1, e2, e3, e4⟩ := z_rn_is (g := z_dgt T) s2
        by_cases h3 : z_rn (z_dgt T) (z_rn (z_spc T) p T.1) T.1 - z_rn (z_spc T) p T.1 ≤ 3
        · rw [z_tok2 h hl hd h3]
          have dg : ∀ i : Int, 0 ≤ i → i < z_rn (z_dgt T) (z_rn (z_spc T) p T.1) T.1 - z_rn (z_spc T) p T.1 → 48 ≤ T.2 (z_rn (z_spc T) p T.1 + i) ∧ T.2 (z_rn (z_spc T) p T.1 + i) ≤ 57 := fun i i0 i1 => e3 _ (by omega) (by omega)
          exact ⟨⟨by omega, e1, e2⟩, ⟨show (0 : Int) ≤ 2 by decide, show (2 : Int) ≤ 5 by decide⟩, fun c => absurd c (show ¬ (2 : Int) = 1 by decide), fun _ => ⟨⟨h3, dg⟩, rfl, z_dec_9 (fun i i0 i1 => dg i i0 (by omega)) (by omega)⟩⟩
        · rw [z_tok4 h hl hd h3]
          exact ⟨⟨by omega, e1, e2⟩, ⟨show (0 : Int) ≤ 4 by decide, show (4 : Int) ≤ 5 by decide⟩, fun c => absurd c (show ¬ (4 : Int) = 1 by decide), fun c => absurd c (show ¬ (4 : Int) = 2 by decide)⟩
      · rw [z_tok3 h hl hd]
        refine ⟨⟨by omega, by show _ ≤ _ + 1; omega, by show _ + 1 ≤ _; omega⟩, ?_, ?_, ?_⟩
        · show 0 ≤ (if _ then (3 : Int) else 4) ∧ (if _ then (3 : Int) else 4) ≤ 5
          split <;> decide
        · show (if _ then (3 : Int) else 4) = 1 → _
          split <;> (intro c; exact absurd c (by decide))
        · show (if _ then (3 : Int) else 4) = 2 → _
          split <;> (intro c; exact absurd c (by decide))
end ZTK
/-- only the reader's numbers are touched -/
def z_f139 (w w' : z_Mm) : Prop := (∀ a : Nat, a ≠ 139 → w' a = w a)
theorem z_f139.trans {w w1 w2 : z_Mm} (h1 : z_f139 w w1) (h2 : z_f139 w1 w2) : z_f139 w w2 := fun a ha => (h2 a ha).trans (h1 a ha)
theorem c_next {sh : List z_C} {w : z_Mm} {T : z_T} {p : Int} {K : z_Mm → Prop} (hT : z_isTG sh 0) (h : z_tc w T) (p0 : 0 ≤ p) (p1 : p ≤ T.1) (hp : w 139 4 + w 139 5 = p) (k : ∀ w', z_ctk w' (z_tok T p) → z_f139 w w' → K w') : z_CV mX4_next [z_r 139] sh w K := by
  have hR : z_isRea sh 139 := hT.2.2.2.2.2.2.1
  have h0 := h.1
  obtain ⟨s1, s2, s3, s4⟩ := z_rn_is (g := z_spc T) p1
  refine z_CVi (t_X4_next hR ?_)
  rw [hp]
  refine ⟨⟨by omega, by omega⟩, fun w2 e2 => ?_⟩
  have e24 : w2 139 4 = p := by rw [e2, z_W_same]
  have f2 : z_f139 w w2 := fun a ha => by rw [e2, z_Wf ha]
  rw [e24]
  refine c_countSpaces hT (h.fr (f2 140 (by omega)) (f2 141 (by omega))) p0 p1 ⟨by constructor <;> omega, fun w6 e6 => ?_⟩
  rw [show p + (z_rn (z_spc T) p T.1 - p) = z_rn (z_spc T) p T.1 by omega] at e6
  have f6 : z_f139 w w6 := f2.trans (fun a ha => by rw [e6, z_Wf ha])
  have h6 : z_tc w6 T := h.fr (f6 140 (by omega)) (f6 141 (by omega))
  have e64 : w6 139 4 = z_rn (z_spc T) p T.1 := by rw [e6, z_W_same]
  rw [e64]
  by_cases c0 : z_rn (z_spc T) p T.1 = T.1
  · obtain ⟨b1, b2⟩ := h6.out (i := z_rn (z_spc T) p T.1) (by omega) (by omega)
    rw [b1]
    refine ⟨b2, fun y8 e8 => ⟨fun _ w34 e34 w35 e35 => ⟨_, rfl, rfl, k w35 ?_ (f6.trans (fun a ha => by rw [e35, z_Wf ha, e34, z_Wf ha]))⟩, fun q => absurd e8 q⟩⟩
    rw [z_tok0 c0]
    refine ⟨?_, ?_, ?_⟩
    · rw [e35, z_W_ne (Or.inr (by decide)), e34, z_W_ne (Or.inr (by decide)), e64, c0]
    · rw [e35, z_W_same]
      show (0 : Int) = T.1 - T.1
      omega
    · rw [e35, z_W_ne (Or.inr (by decide)), e34, z_W_same]
      rfl
  · obtain ⟨b1, b2⟩ := h6.at (i := z_rn (z_spc T) p T.1) (by omega) (by omega)
    have rb := (h6.2.2 (z_rn (z_spc T) p T.1) (by omega) (by omega)).2
    rw [b1]
    refine ⟨b2, fun y8 e8 => ⟨fun q => absurd q (by omega), fun _ => ⟨fun q1 => ⟨fun q2 w12 e12 w17 e17 => ?_, fun q2 => ?_⟩, fun q1 => ?_⟩⟩⟩
    · rw [z_flt, e8] at q1
      rw [z_fdt, e8] at q2
      refine ⟨_, rfl, rfl, k w17 ?_ (f6.trans (fun a ha => by rw [e17, z_Wf ha, e12, z_Wf ha]))⟩
      rw [z_tok3 c0 q1 q2]
      refine ⟨?_, ?_, ?_⟩
      · rw [e17, z_W_ne (Or.inr (by decide)), e12, z_W_ne (Or.inr (by decide)), e64]
      · rw [e17, z_W_ne (Or.inr (by decide)), e12, z_W_same]
        show (1 : Int) = z_rn (z_spc T) p T.1 + 1 - z_rn (z_spc T) p T.1
        omega
      · rw [e17, z_W_same, e8]
        show _ = if (if T.2 (z_rn (z_spc T) p T.1) = 59 then (3 : Int) else 4) = 0 then _ else _
        by_cases q3 : T.2 (z_rn (z_spc T) p T.1) = 59
        · rw [if_pos q3, if_pos q3]; rfl
        · rw [if_neg q3, if_neg q3]; rfl
    · rw [z_flt, e8] at q1
      have q2' : z_dgt T (z_rn (z_spc T) p T.1) := Classical.byContradiction fun q => q2 (z_fdt.mpr (by rw [e8]; exact q))
      refine c_countDigits hT h6 (by omega) s2 (fun w20 e20 w25 e25 => ?_)
      have g5 : w20 139 5 = z_rn (z_dgt T) (z_rn (z_spc T) p T.1) T.1 - z_rn (z_spc T) p T.1 := by rw [e20, z_W_same]
      rw [g5] at e25
      refine ⟨_, rfl, rfl, k w25 ?_ (f6.trans (fun a ha => by rw [e25, z_Wf ha, e20, z_Wf ha]))⟩
      have a4 : w25 139 4 = z_rn (z_spc T) p T.1 := by rw [e25, z_W_ne (Or.inr (by decide)), e20, z_W_ne (Or.inr (by decide)), e64]
      have a5 : w25 139 5 = z_rn (z_dgt T) (z_rn (z_spc T) p T.1) T.1 - z_rn (z_spc T) p T.1 := by rw [e25, z_W_ne (Or.inr (by decide)), g5]
      by_cases h3 : z_rn (z_dgt T) (z_rn (z_spc T) p T.1) T.1 - z_rn (z_spc T) p T.1 ≤ 3
      · rw [z_tok2 c0 q1 q2' h3]
        exact ⟨a4, a5, by rw [e25, z_W_same, if_neg (by omega)]; rfl⟩
      · rw [z_tok4 c0 q1 q2' h3]
        exact ⟨a4, a5, by rw [e25, z_W_same, if_pos (by omega)]; rfl⟩
    · have q1' : z_ltr T (z_rn (z_spc T) p T.1) := Classical.byContradiction fun q => q1 (z_flt.mpr (by rw [e8]; exact q))
      refine c_countLetters hT h6 (by omega) s2 (fun w20 e20 w25 e25 => ?_)
      have g5 : w20 139 5 = z_rn (z_ltr T) (z_rn (z_spc T) p T.1) T.1 - z_rn (z_spc T) p T.1 := by rw [e20, z_W_same]
      rw [g5] at e25
      refine ⟨_, rfl, rfl, k w25 ?_ (f6.trans (fun a ha => by rw [e25, z_Wf ha, e20, z_Wf ha]))⟩
      have a4 : w25 139 4 = z_rn (z_spc T) p T.1 := by rw [e25, z_W_ne (Or.inr (by decide)), e20, z_W_ne (Or.inr (by decide)), e64]
      have a5 : w25 139 5 = z_rn (z_ltr T) (z_rn (z_spc T) p T.1) T.1 - z_rn (z_spc T) p T.1 := by rw [e25, z_W_ne (Or.inr (by decide)), g5]
      by_cases h5 : z_rn (z_ltr T) (z_rn (z_spc T) p T.1) T.1 - z_rn (z_spc T) p T.1 ≤ 5
      · rw [z_tok1 c0 q1' h5]
        exact ⟨a4, a5, by rw [e25, z_W_same, if_neg (by omega)]; rfl⟩
      · rw [z_tok5 c0 q1' h5]
        exact ⟨a4, a5, by rw [e25, z_W_same, if_pos (by omega)]; rfl⟩
/-! the reference's next token -/
theorem z_sgr {b lo hi : Int} (hb : 0 ≤ b ∧ b ≤ 255) (h0 : 0 ≤ lo) (h1 : hi ≤ 127) : (lo ≤ z_sg b ∧ z_sg b ≤ hi) ↔ (lo ≤ b ∧ b ≤ hi) := by
  unfold z_sg
  split <;> omega
def z_tbt (T : z_T) : Prop := (0 ≤ T.1 ∧ T.1 ≤ 900) ∧ ∀ i : Int, 0 ≤ i → i < T.1 → 0 ≤ T.2 i ∧ T.2 i ≤ 255
/-- only the reference's reader is touched -/
def z_f15 (w w' : z_Mm) : Prop := (∀ a : Nat, a ≠ 161 → w' a = w a) ∧ ∀ j : Int, (j < 15 ∨ 19 < j) → w' 161 j = w 161 j
theorem z_f15.rf {w : z_Mm} : z_f15 w w := ⟨fun _ _ => rfl, fun _ _ => rfl⟩
theorem z_f15.trans {w w1 w2 : z_Mm} (h1 : z_f15 w w1) (h2 : z_f15 w1 w2) : z_f15 w w2 := ⟨fun a ha => (h2.1 a ha).trans (h1.1 a ha), fun j hj => (h2.2 j hj).trans (h1.2 j hj)⟩
theorem z_f15W {w : z_Mm} {j x : Int} (h : 15 ≤ j ∧ j ≤ 19) : z_f15 w (z_W w 161 j x) := ⟨fun a ha => z_Wf ha, fun i hi => z_W_ne (Or.inr (by omega))⟩
theorem z_tr.f15 {w w' : z_Mm} {T : z_T} (h : z_tr w T) (f : z_f15 w w') : z_tr w' T := h.fr (f.2 1 (by omega)) (f.1 162 (by omega))
