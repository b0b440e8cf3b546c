/-! TOKENS -/
def z_dec (f : Int → Int) : Nat → Int
  | 0 => 0
  | k + 1 => 10 * z_dec f k + (f (k : Int) - 48)
theorem z_dec_R {f : Int → Int} : ∀ k : Nat, (∀ i : Int, 0 ≤ i → i < k → 48 ≤ f i ∧ f i ≤ 57) → k ≤ 3 → 0 ≤ z_dec f k ∧ z_dec f k < 10 ^ k
  | 0, _, _ => ⟨Int.le_refl _, show (0 : Int) < 10 ^ 0 by decide⟩
  | k + 1, h, hk => by
    have ih := z_dec_R k (fun i i0 i1 => h i i0 (by omega)) (by omega)
    have := h (k : Int) (by omega) (by omega)
    rw [z_dec]
    have hk' : k = 0 ∨ k = 1 ∨ k = 2 := by omega
    rcases hk' with rfl | rfl | rfl
    · have e : (10 : Int) ^ 0 = 1 := by decide
      have e' : (10 : Int) ^ (0 + 1) = 10 := by decide
      rw [e] at ih
      rw [e']
      omega
    · have e : (10 : Int) ^ 1 = 10 := by decide
      have e' : (10 : Int) ^ (1 + 1) = 100 := by decide
      rw [e] at ih
      rw [e']
      omega
    · have e : (10 : Int) ^ 2 = 100 := by decide
      have e' : (10 : Int) ^ (2 + 1) = 1000 := by decide
      rw [e] at ih
      rw [e']
      omega
theorem z_dec_9 {f : Int → Int} {k : Nat} (h : ∀ i : Int, 0 ≤ i → i < k → 48 ≤ f i ∧ f i ≤ 57) (hk : k ≤ 3) : 0 ≤ z_dec f k ∧ z_dec f k ≤ 999 := by
  have := z_dec_R k h hk
  have hk' : k = 0 ∨ k = 1 ∨ k = 2 ∨ k = 3 := by omega
  rcases hk' with rfl | rfl | rfl | rfl
  · rw [show (10 : Int) ^ 0 = 1 by decide] at this; omega
  · rw [show (10 : Int) ^ 1 = 10 by decide] at this; omega
  · rw [show (10 : Int) ^ 2 = 100 by decide] at this; omega
  · rw [show (10 : Int) ^ 3 = 1000 by decide] at this; omega
/-- start, end, kind (0 none, 1 word, 2 number, 3 mark, 4 bad, 5 long word), value -/
abbrev z_K4 : Type := Int × Int × Int × Int
noncomputable def z_tok (T : z_T) (p : Int) : z_K4 :=
  if z_rn (z_spc T) p T.1 = T.1 then (T.1, T.1, 0, 0)
  else @ite _ (z_ltr T (z_rn (z_spc T) p T.1)) (Classical.propDecidable _)
    (if z_rn (z_ltr T) (z_rn (z_spc T) p T.1) T.1 - z_rn (z_spc T) p T.1 ≤ 5 then (z_rn (z_spc T) p T.1, z_rn (z_ltr T) (z_rn (z_spc T) p T.1) T.1, 1, z_tw T (z_rn (z_spc T) p T.1) (z_rn (z_ltr T) (z_rn (z_spc T) p T.1) T.1 - z_rn (z_spc T) p T.1)) else (z_rn (z_spc T) p T.1, z_rn (z_ltr T) (z_rn (z_spc T) p T.1) T.1, 5, 0))
    (@ite _ (z_dgt T (z_rn (z_spc T) p T.1)) (Classical.propDecidable _)
      (if z_rn (z_dgt T) (z_rn (z_spc T) p T.1) T.1 - z_rn (z_spc T) p T.1 ≤ 3 then (z_rn (z_spc T) p T.1, z_rn (z_dgt T) (z_rn (z_spc T) p T.1) T.1, 2, z_dec (fun i => T.2 (z_rn (z_spc T) p T.1 + i)) (z_rn (z_dgt T) (z_rn (z_spc T) p T.1) T.1 - z_rn (z_spc T) p T.1).toNat) else (z_rn (z_spc T) p T.1, z_rn (z_dgt T) (z_rn (z_spc T) p T.1) T.1, 4, 0))
      (z_rn (z_spc T) p T.1, z_rn (z_spc T) p T.1 + 1, if T.2 (z_rn (z_spc T) p T.1) = 59 then 3 else 4, 0))
/-- what a token may be -/
def z_tkk (T : z_T) (τ : z_K4) : Prop := (0 ≤ τ.1 ∧ τ.1 ≤ τ.2.1 ∧ τ.2.1 ≤ T.1) ∧ (0 ≤ τ.2.2.1 ∧ τ.2.2.1 ≤ 5) ∧ (τ.2.2.1 = 1 → z_lts T τ.1 (τ.2.1 - τ.1) ∧ τ.2.2.2 = z_tw T τ.1 (τ.2.1 - τ.1)) ∧
  (τ.2.2.1 = 2 → (τ.2.1 - τ.1 ≤ 3 ∧ (∀ i : Int, 0 ≤ i → i < τ.2.1 - τ.1 → 48 ≤ T.2 (τ.1 + i) ∧ T.2 (τ.1 + i) ≤ 57)) ∧ τ.2.2.2 = z_dec (fun i => T.2 (τ.1 + i)) (τ.2.1 - τ.1).toNat ∧ 0 ≤ τ.2.2.2 ∧ τ.2.2.2 ≤ 999)
/-- the token in the class's reader -/
def z_ctk (w : z_Mm) (τ : z_K4) : Prop := w 139 4 = τ.1 ∧ w 139 5 = τ.2.1 - τ.1 ∧ w 139 3 = (if τ.2.2.1 = 0 then 0 else if τ.2.2.1 = 1 then 2 else if τ.2.2.1 = 2 then 3 else if τ.2.2.1 = 3 then 4 else 1)
/-- the token in the reference -/
def z_rtk (w : z_Mm) (τ : z_K4) : Prop := w 161 16 = τ.1 ∧ w 161 15 = τ.2.1 ∧ w 161 17 = (if τ.2.2.1 = 5 then 1 else τ.2.2.1) ∧ (τ.2.2.1 = 1 → w 161 18 = τ.2.2.2) ∧ (τ.2.2.1 = 5 → w 161 18 = 0) ∧ (τ.2.2.1 = 2 → w 161 19 = τ.2.2.2)
section ZTK
variable {T : z_T} {p : Int}
theorem z_tok0 (h : z_rn (z_spc T) p T.1 = T.1) : z_tok T p = (T.1, T.1, 0, 0) := by
  unfold z_tok
  rw [if_pos h]
theorem z_tok1 (h : ¬ z_rn (z_spc T) p T.1 = T.1) (hl : z_ltr T (z_rn (z_spc T) p T.1)) (h5 : z_rn (z_ltr T) (z_rn (z_spc T) p T.1) T.1 - z_rn (z_spc T) p T.1 ≤ 5) : z_tok T p = (z_rn (z_spc T) p T.1, z_rn (z_ltr T) (z_rn (z_spc T) p T.1) T.1, 1, z_tw T (z_rn (z_spc T) p T.1) (z_rn (z_ltr T) (z_rn (z_spc T) p T.1) T.1 - z_rn (z_spc T) p T.1)) := by
  unfold z_tok
  rw [if_neg h, if_pos hl, if_pos h5]
theorem z_tok5 (h : ¬ z_rn (z_spc T) p T.1 = T.1) (hl : z_ltr T (z_rn (z_spc T) p T.1)) (h5 : ¬ z_rn (z_ltr T) (z_rn (z_spc T) p T.1) T.1 - z_rn (z_spc T) p T.1 ≤ 5) : z_tok T p = (z_rn (z_spc T) p T.1, z_rn (z_ltr T) (z_rn (z_spc T) p T.1) T.1, 5, 0) := by
  unfold z_tok
  rw [if_neg h, if_pos hl, if_neg h5]
theorem z_tok2 (h : ¬ z_rn (z_spc T) p T.1 = T.1) (hl : ¬ z_ltr T (z_rn (z_spc T) p T.1)) (hd : z_dgt T (z_rn (z_spc T) p T.1)) (h3 : z_rn (z_dgt T) (z_rn (z_spc T) p T.1) T.1 - z_rn (z_spc T) p T.1 ≤ 3) : z_tok T p = (z_rn (z_spc T) p T.1, z_rn (z_dgt T) (z_rn (z_spc T) p T.1) T.1, 2, z_dec (fun i => T.2 (z_rn (z_spc T) p T.1 + i)) (z_rn (z_dgt T) (z_rn (z_spc T) p T.1) T.1 - z_rn (z_spc T) p T.1).toNat) := by
  unfold z_tok
  rw [if_neg h, if_neg hl, if_pos hd, if_pos h3]
theorem z_tok4 (h : ¬ z_rn (z_spc T) p T.1 = T.1) (hl : ¬ z_ltr T (z_rn (z_spc T) p T.1)) (hd : z_dgt T (z_rn (z_spc T) p T.1)) (h3 : ¬ z_rn (z_dgt T) (z_rn (z_spc T) p T.1) T.1 - z_rn (z_spc T) p T.1 ≤ 3) : z_tok T p = (z_rn (z_spc T) p T.1, z_rn (z_dgt T) (z_rn (z_spc T) p T.1) T.1, 4, 0) := by
  unfold z_tok
  rw [if_neg h, if_neg hl, if_pos hd, if_neg h3]
theorem z_tok3 (h : ¬ z_rn (z_spc T) p T.1 = T.1) (hl : ¬ z_ltr T (z_rn (z_spc T) p T.1)) (hd : ¬ z_dgt T (z_rn (z_spc T) p T.1)) : z_tok T p = (z_rn (z_spc T) p T.1, z_rn (z_spc T) p T.1 + 1, if T.2 (z_rn (z_spc T) p T.1) = 59 then 3 else 4, 0) := by
  unfold z_tok
  rw [if_neg h, if_neg hl, if_neg hd]
theorem z_tkk_tok (p0 : 0 ≤ p) (p1 : p ≤ T.1) : z_tkk T (z_tok T p) := by
  obtain ⟨s1, s2, s3, s4⟩ := z_rn_is (g := z_spc T) p1
  by_cases h : z_rn (z_spc T) p T.1 = T.1
  · rw [z_tok0 h]
    exact ⟨⟨by show 0 ≤ T.1; omega, Int.le_refl _, Int.le_refl _⟩, ⟨Int.le_refl _, show (0 : Int) ≤ 5 by decide⟩, fun c => absurd c (show ¬ (0 : Int) = 1 by decide), fun c => absurd c (show ¬ (0 : Int) = 2 by decide)⟩
  · by_cases hl : z_ltr T (z_rn (z_spc T) p T.1)
    · obtain ⟨e1, e2, e3, e4⟩ := z_rn_is (g := z_ltr T) s2
      have e5 : z_rn (z_spc T) p T.1 < z_rn (z_ltr T) (z_rn (z_spc T) p T.1) T.1 := by
        rcases Int.lt_or_eq_of_le e1 with q | q
        · exact q
        · exact absurd (by rw [q] at hl; exact hl) (e4 (by omega))
      by_cases h5 : z_rn (z_ltr T) (z_rn (z_spc T) p T.1) T.1 - z_rn (z_spc T) p T.1 ≤ 5
      · rw [z_tok1 h hl h5]
        have hlr : z_lts T (z_rn (z_spc T) p T.1) (z_rn (z_ltr T) (z_rn (z_spc T) p T.1) T.1 - z_rn (z_spc T) p T.1) := z_lts_run (by omega) s2 (by omega) h5 (by omega)
        exact ⟨⟨by omega, e1, e2⟩, ⟨show (0 : Int) ≤ 1 by decide, show (1 : Int) ≤ 5 by decide⟩, fun _ => ⟨hlr, rfl⟩, fun c => absurd c (show ¬ (1 : Int) = 2 by decide)⟩
      · rw [z_tok5 h hl h5]
        exact ⟨⟨by omega, e1, e2⟩, ⟨show (0 : Int) ≤ 5 by decide, Int.le_refl _⟩, fun c => absurd c (show ¬ (5 : Int) = 1 by decide), fun c => absurd c (show ¬ (5 : Int) = 2 by decide)⟩
    · by_cases hd : z_dgt T (z_rn (z_spc T) p T.1)
      · obtain ⟨e1, e2, e3, e4⟩ := z_rn_is (g := z_dgt T) s2
        by_cases h3 : z_rn (z_dgt T) (z_rn (z_spc T) p T.1) T.1 - z_rn (z_spc T) p T.1 ≤ 3
        · rw [z_tok2 h hl hd h3]
          have dg : ∀ i : Int, 0 ≤ i → i < z_rn (z_dgt T) (z_rn (z_spc T) p T.1) T.1 - z_rn (z_spc T) p T.1 → 48 ≤ T.2 (z_rn (z_spc T) p T.1 + i) ∧ T.2 (z_rn (z_spc T) p T.1 + i) ≤ 57 := fun i i0 i1 => e3 _ (by omega) (by omega)
          exact ⟨⟨by omega, e1, e2⟩, ⟨show (0 : Int) ≤ 2 by decide, show (2 : Int) ≤ 5 by decide⟩, fun c => absurd c (show ¬ (2 : Int) = 1 by decide), fun _ => ⟨⟨h3, dg⟩, rfl, z_dec_9 (fun i i0 i1 => dg i i0 (by omega)) (by omega)⟩⟩
        · rw [z_tok4 h hl hd h3]
          exact ⟨⟨by omega, e1, e2⟩, ⟨show (0 : Int) ≤ 4 by decide, show (4 : Int) ≤ 5 by decide⟩, fun c => absurd c (show ¬ (4 : Int) = 1 by decide), fun c => absurd c (show ¬ (4 : Int) = 2 by decide)⟩
      · rw [z_tok3 h hl hd]
        refine ⟨⟨by omega, by show _ ≤ _ + 1; omega, by show _ + 1 ≤ _; omega⟩, ?_, ?_, ?_⟩
        · show 0 ≤ (if _ then (3 : Int) else 4) ∧ (if _ then (3 : Int) else 4) ≤ 5
          split <;> decide
        · show (if _ then (3 : Int) else 4) = 1 → _
          split <;> (intro c; exact absurd c (by decide))
        · show (if _ then (3 : Int) else 4) = 2 → _
          split <;> (intro c; exact absurd c (by decide))
end ZTK
/-- only the reader's numbers are touched -/
def z_f139 (w w' : z_Mm) : Prop := (∀ a : Nat, a ≠ 139 → w' a = w a)
theorem z_f139.trans {w w1 w2 : z_Mm} (h1 : z_f139 w w1) (h2 : z_f139 w1 w2) : z_f139 w w2 := fun a ha => (h2 a ha).trans (h1 a ha)
theorem c_next {sh : List z_C} {w : z_Mm} {T : z_T} {p : Int} {K : z_Mm → Prop} (hT : z_isTG sh 0) (h : z_tc w T) (p0 : 0 ≤ p) (p1 : p ≤ T.1) (hp : w 139 4 + w 139 5 = p) (k : ∀ w', z_ctk w' (z_tok T p) → z_f139 w w' → K w') : z_CV mX4_next [z_r 139] sh w K := by
  have hR : z_isRea sh 139 := hT.2.2.2.2.2.2.1
  have h0 := h.1
  obtain ⟨s1, s2, s3, s4⟩ := z_rn_is (g := z_spc T) p1
  refine z_CVi (t_X4_next hR ?_)
  rw [hp]
  refine ⟨⟨by omega, by omega⟩, fun w2 e2 => ?_⟩
  have e24 : w2 139 4 = p := by rw [e2, z_W_same]
  have f2 : z_f139 w w2 := fun a ha => by rw [e2, z_Wf ha]
  rw [e24]
  refine c_countSpaces hT (h.fr (f2 140 (by omega)) (f2 141 (by omega))) p0 p1 ⟨by constructor <;> omega, fun w6 e6 => ?_⟩
  rw [show p + (z_rn (z_spc T) p T.1 - p) = z_rn (z_spc T) p T.1 by omega] at e6
  have f6 : z_f139 w w6 := f2.trans (fun a ha => by rw [e6, z_Wf ha])
  have h6 : z_tc w6 T := h.fr (f6 140 (by omega)) (f6 141 (by omega))
  have e64 : w6 139 4 = z_rn (z_spc T) p T.1 := by rw [e6, z_W_same]
  rw [e64]
  by_cases c0 : z_rn (z_spc T) p T.1 = T.1
  · obtain ⟨b1, b2⟩ := h6.out (i := z_rn (z_spc T) p T.1) (by omega) (by omega)
    rw [b1]
    refine ⟨b2, fun y8 e8 => ⟨fun _ w34 e34 w35 e35 => ⟨_, rfl, rfl, k w35 ?_ (f6.trans (fun a ha => by rw [e35, z_Wf ha, e34, z_Wf ha]))⟩, fun q => absurd e8 q⟩⟩
    rw [z_tok0 c0]
    refine ⟨?_, ?_, ?_⟩
    · rw [e35, z_W_ne (Or.inr (by decide)), e34, z_W_ne (Or.inr (by decide)), e64, c0]
    · rw [e35, z_W_same]
      show (0 : Int) = T.1 - T.1
      omega
    · rw [e35, z_W_ne (Or.inr (by decide)), e34, z_W_same]
      rfl
  · obtain ⟨b1, b2⟩ := h6.at (i := z_rn (z_spc T) p T.1) (by omega) (by omega)
    have rb := (h6.2.2 (z_rn (z_spc T) p T.1) (by omega) (by omega)).2
    rw [b1]
    refine ⟨b2, fun y8 e8 => ⟨fun q => absurd q (by omega), fun _ => ⟨fun q1 => ⟨fun q2 w12 e12 w17 e17 => ?_, fun q2 => ?_⟩, fun q1 => ?_⟩⟩⟩
    · rw [z_flt, e8] at q1
      rw [z_fdt, e8] at q2
      refine ⟨_, rfl, rfl, k w17 ?_ (f6.trans (fun a ha => by rw [e17, z_Wf ha, e12, z_Wf ha]))⟩
      rw [z_tok3 c0 q1 q2]
      refine ⟨?_, ?_, ?_⟩
      · rw [e17, z_W_ne (Or.inr (by decide)), e12, z_W_ne (Or.inr (by decide)), e64]
      · rw [e17, z_W_ne (Or.inr (by decide)), e12, z_W_same]
        show (1 : Int) = z_rn (z_spc T) p T.1 + 1 - z_rn (z_spc T) p T.1
        omega
      · rw [e17, z_W_same, e8]
        show _ = if (if T.2 (z_rn (z_spc T) p T.1) = 59 then (3 : Int) else 4) = 0 then _ else _
        by_cases q3 : T.2 (z_rn (z_spc T) p T.1) = 59
        · rw [if_pos q3, if_pos q3]; rfl
        · rw [if_neg q3, if_neg q3]; rfl
    · rw [z_flt, e8] at q1
      have q2' : z_dgt T (z_rn (z_spc T) p T.1) := Classical.byContradiction fun q => q2 (z_fdt.mpr (by rw [e8]; exact q))
      refine c_countDigits hT h6 (by omega) s2 (fun w20 e20 w25 e25 => ?_)
      have g5 : w20 139 5 = z_rn (z_dgt T) (z_rn (z_spc T) p T.1) T.1 - z_rn (z_spc T) p T.1 := by rw [e20, z_W_same]
      rw [g5] at e25
      refine ⟨_, rfl, rfl, k w25 ?_ (f6.trans (fun a ha => by rw [e25, z_Wf ha, e20, z_Wf ha]))⟩
      have a4 : w25 139 4 = z_rn (z_spc T) p T.1 := by rw [e25, z_W_ne (Or.inr (by decide)), e20, z_W_ne (Or.inr (by decide)), e64]
      have a5 : w25 139 5 = z_rn (z_dgt T) (z_rn (z_spc T) p T.1) T.1 - z_rn (z_spc T) p T.1 := by rw [e25, z_W_ne (Or.inr (by decide)), g5]
      by_cases h3 : z_rn (z_dgt T) (z_rn (z_spc T) p T.1) T.1 - z_rn (z_spc T) p T.1 ≤ 3
      · rw [z_tok2 c0 q1 q2' h3]
        exact ⟨a4, a5, by rw [e25, z_W_same, if_neg (by omega)]; rfl⟩
      · rw [z_tok4 c0 q1 q2' h3]
        exact ⟨a4, a5, by rw [e25, z_W_same, if_pos (by omega)]; rfl⟩
    · have q1' : z_ltr T (z_rn (z_spc T) p T.1) := Classical.byContradiction fun q => q1 (z_flt.mpr (by rw [e8]; exact q))
      refine c_countLetters hT h6 (by omega) s2 (fun w20 e20 w25 e25 => ?_)
      have g5 : w20 139 5 = z_rn (z_ltr T) (z_rn (z_spc T) p T.1) T.1 - z_rn (z_spc T) p T.1 := by rw [e20, z_W_same]
      rw [g5] at e25
      refine ⟨_, rfl, rfl, k w25 ?_ (f6.trans (fun a ha => by rw [e25, z_Wf ha, e20, z_Wf ha]))⟩
      have a4 : w25 139 4 = z_rn (z_spc T) p T.1 := by rw [e25, z_W_ne (Or.inr (by decide)), e20, z_W_ne (Or.inr (by decide)), e64]
      have a5 : w25 139 5 = z_rn (z_ltr T) (z_rn (z_spc T) p T.1) T.1 - z_rn (z_spc T) p T.1 := by rw [e25, z_W_ne (Or.inr (by decide)), g5]
      by_cases h5 : z_rn (z_ltr T) (z_rn (z_spc T) p T.1) T.1 - z_rn (z_spc T) p T.1 ≤ 5
      · rw [z_tok1 c0 q1' h5]
        exact ⟨a4, a5, by rw [e25, z_W_same, if_neg (by omega)]; rfl⟩
      · rw [z_tok5 c0 q1' h5]
        exact ⟨a4, a5, by rw [e25, z_W_same, if_pos (by omega)]; rfl⟩
/-! the reference's next token -/
theorem z_sgr {b lo hi : Int} (hb : 0 ≤ b ∧ b ≤ 255) (h0 : 0 ≤ lo) (h1 : hi ≤ 127) : (lo ≤ z_sg b ∧ z_sg b ≤ hi) ↔ (lo ≤ b ∧ b ≤ hi) := by
  unfold z_sg
  split <;> omega
def z_tbt (T : z_T) : Prop := (0 ≤ T.1 ∧ T.1 ≤ 900) ∧ ∀ i : Int, 0 ≤ i → i < T.1 → 0 ≤ T.2 i ∧ T.2 i ≤ 255
theorem z_fib {w : z_Mm} {T : z_T} {i lo hi : Int} (h : z_tr w T) (hB : z_tbt T) (hi15 : w 161 15 = i) (i0 : 0 ≤ i) (i1 : i ≤ T.1) (h0 : 0 ≤ lo) (h1 : hi ≤ 127) : (f_X9_isByte w lo hi = 0 ↔ ¬ (i < T.1 ∧ lo ≤ T.2 i ∧ T.2 i ≤ hi)) ∧ s_X9_isByte w lo hi := by
  obtain ⟨t1, t2⟩ := h
  have t0 := hB.1
  constructor
  · unfold f_X9_isByte
    rw [t1, hi15]
    by_cases c : T.1 ≤ i
    · rw [if_pos c]
      exact ⟨fun _ q => by omega, fun _ => rfl⟩
    · rw [if_neg c, t2 i i0 (by omega)]
      have := z_sgr (hB.2 i i0 (by omega)) h0 h1
      split
      · exact ⟨fun _ q => by omega, fun _ => rfl⟩
      · split
        · exact ⟨fun _ q => by omega, fun _ => rfl⟩
        · exact ⟨fun q => by omega, fun q => by omega⟩
  · unfold s_X9_isByte
    rw [t1, hi15]
    exact ⟨fun c => ⟨⟨by omega, by omega⟩, fun _ => ⟨⟨by omega, by omega⟩, True.intro⟩, True.intro⟩, True.intro⟩
/-- only the reference's reader is touched -/
def z_f15 (w w' : z_Mm) : Prop := (∀ a : Nat, a ≠ 161 → w' a = w a) ∧ ∀ j : Int, (j < 15 ∨ 19 < j) → w' 161 j = w 161 j
theorem z_f15.rf {w : z_Mm} : z_f15 w w := ⟨fun _ _ => rfl, fun _ _ => rfl⟩
theorem z_f15.trans {w w1 w2 : z_Mm} (h1 : z_f15 w w1) (h2 : z_f15 w1 w2) : z_f15 w w2 := ⟨fun a ha => (h2.1 a ha).trans (h1.1 a ha), fun j hj => (h2.2 j hj).trans (h1.2 j hj)⟩
theorem z_f15W {w : z_Mm} {j x : Int} (h : 15 ≤ j ∧ j ≤ 19) : z_f15 w (z_W w 161 j x) := ⟨fun a ha => z_Wf ha, fun i hi => z_W_ne (Or.inr (by omega))⟩
theorem z_tr.f15 {w w' : z_Mm} {T : z_T} (h : z_tr w T) (f : z_f15 w w') : z_tr w' T := h.fr (f.2 1 (by omega)) (f.1 162 (by omega))
theorem m_takesLetters {sh : List z_C} {w : z_Mm} {T : z_T} {s : Int} {K : z_Mm → Prop} (hM : z_isMod sh 161) (h : z_tr w T) (hB : z_tbt T) (s0 : 0 ≤ s) (s1 : s ≤ T.1) (h15 : w 161 15 = s) (h16 : w 161 16 = s)
    (k : ∀ w', z_f15 w w' → w' 161 16 = s → w' 161 15 = z_rn (z_ltr T) s T.1 → w' 161 17 = 1 → w' 161 18 = (if z_rn (z_ltr T) s T.1 - s ≤ 5 then z_tw T s (z_rn (z_ltr T) s T.1 - s) else 0) → K w') : z_CV mX9_takesLetters [z_r 161] sh w K := by
  have t0 := hB.1
  obtain ⟨e1, e2, e3, e4⟩ := z_rn_is (g := z_ltr T) s1
  refine z_CVi (t_X9_takesLetters hM (fun w1 q1 => ?_))
  refine z_for (n := z_rn (z_ltr T) s T.1) (i0 := s) (fun i v => z_Sem mX9_takesLetters (sh.length, 0) 5 [(0, z_r 161)] [] (sh, v) _)
    (fun i v => z_f15 w v ∧ v 161 16 = s ∧ v 161 15 = i ∧ v 161 18 = (if i - s ≤ 5 then z_word (fun j => T.2 (s + j)) (i - s).toNat else 0)) e1 ⟨by rw [q1]; exact z_f15W (by omega), by rw [q1, z_W_ne (Or.inr (by decide))]; exact h16, by rw [q1, z_W_ne (Or.inr (by decide))]; exact h15, ?_⟩ ?_ ?_
  · rw [q1, z_W_same, if_pos (by omega), show (s - s).toNat = 0 by omega]
    rfl
  · rintro v ⟨vf, v16, v15, v18⟩
    obtain ⟨b1, b2⟩ := z_fib (lo := 97) (hi := 122) (h.f15 vf) hB v15 (by omega) e2 (by omega) (by omega)
    refine t_X9_takesLetters_5 hM ⟨b2, fun _ => ?_, fun q => absurd (b1.mpr (fun c => e4 c.1 c.2)) q⟩
    rw [v15, v16, v18]
    refine ⟨⟨by omega, by omega⟩, fun w8 q8 w9 q9 => ⟨_, rfl, rfl, k w9 ?_ ?_ ?_ ?_ ?_⟩⟩
    · refine vf.trans ?_
      rw [q9, q8]
      exact (z_f15W (by omega)).trans (z_f15W (by omega))
    · rw [q9, z_W_ne (Or.inr (by decide)), q8, z_W_ne (Or.inr (by decide))]; exact v16
    · rw [q9, z_W_ne (Or.inr (by decide)), q8, z_W_ne (Or.inr (by decide))]; exact v15
    · rw [q9, z_W_same]
    · rw [q9, z_W_ne (Or.inr (by decide)), q8, z_W_same]
      by_cases c : z_rn (z_ltr T) s T.1 - s ≤ 5
      · rw [if_pos c, if_pos c, if_pos c]; rfl
      · rw [if_neg c, if_neg c]
  · rintro i v i0 i1 ⟨vf, v16, v15, v18⟩ kk
    have hv := h.f15 vf
    obtain ⟨b1, b2⟩ := z_fib (lo := 97) (hi := 122) hv hB v15 (by omega) (by omega) (by omega) (by omega)
    have hl := e3 i i0 i1
    have rb := hB.2 i (by omega) (by omega)
    have es : z_sg (T.2 i) = T.2 i := by
      unfold z_sg
      have : 97 ≤ T.2 i ∧ T.2 i ≤ 122 := hl
      rw [if_pos (by omega)]
    have e162 : v 162 i = T.2 i := by rw [hv.2 i (by omega) (by omega), es]
    have hw : i - s ≤ 5 → 0 ≤ z_word (fun j => T.2 (s + j)) (i - s).toNat ∧ z_word (fun j => T.2 (s + j)) (i - s).toNat < 33554432 := fun c => z_tw_R4 (f := fun j => T.2 (s + j)) (i - s).toNat (by omega) (fun j j0 j1 => e3 (s + j) (by omega) (by omega))
    refine t_X9_takesLetters_5 hM ⟨b2, fun q => absurd ⟨by omega, hl⟩ (b1.mp q), fun _ => ?_⟩
    rw [v15, v16, e162, v18]
    refine ⟨⟨by omega, by omega⟩, fun c => ?_, fun w20 q20 => ?_⟩
    · rw [if_pos (by omega)]
      have := hw (by omega)
      exact ⟨⟨by omega, by omega⟩, ⟨by omega, by omega⟩, ⟨by omega, by omega⟩, ⟨by omega, by omega⟩, True.intro⟩
    · have g15 : w20 161 15 = i := by rw [q20, z_W_ne (Or.inr (by decide))]; exact v15
      rw [g15]
      refine ⟨⟨by omega, by omega⟩, fun w22 q22 => kk w22 ⟨?_, ?_, ?_, ?_⟩⟩
      · refine vf.trans ?_
        rw [q22, q20]
        exact (z_f15W (by omega)).trans (z_f15W (by omega))
      · rw [q22, z_W_ne (Or.inr (by decide)), q20, z_W_ne (Or.inr (by decide))]; exact v16
      · rw [q22, z_W_same]
      · rw [q22, z_W_ne (Or.inr (by decide)), q20, z_W_same]
        by_cases c : 5 ≤ i - s
        · rw [if_pos c, if_neg (by omega)]
        · rw [if_neg c, if_pos (show i + 1 - s ≤ 5 by omega), if_pos (show i - s ≤ 5 by omega), show (i + 1 - s).toNat = (i - s).toNat + 1 by omega, z_word]
          show 32 * z_word (fun j => T.2 (s + j)) (i - s).toNat + T.2 i - 96 = 32 * z_word (fun j => T.2 (s + j)) (i - s).toNat + (T.2 (s + (((i - s).toNat : Nat) : Int)) - 96)
          rw [show s + (((i - s).toNat : Nat) : Int) = i by omega]
          omega
theorem m_takesDigits {sh : List z_C} {w : z_Mm} {T : z_T} {s : Int} {K : z_Mm → Prop} (hM : z_isMod sh 161) (h : z_tr w T) (hB : z_tbt T) (s0 : 0 ≤ s) (s1 : s ≤ T.1) (h15 : w 161 15 = s) (h16 : w 161 16 = s)
    (k : ∀ w', z_f15 w w' → w' 161 16 = s → w' 161 15 = z_rn (z_dgt T) s T.1 → w' 161 17 = (if z_rn (z_dgt T) s T.1 - s ≤ 3 then 2 else 4) → (z_rn (z_dgt T) s T.1 - s ≤ 3 → w' 161 19 = z_dec (fun i => T.2 (s + i)) (z_rn (z_dgt T) s T.1 - s).toNat) → K w') : z_CV mX9_takesDigits [z_r 161] sh w K := by
  have t0 := hB.1
  obtain ⟨e1, e2, e3, e4⟩ := z_rn_is (g := z_dgt T) s1
  refine z_CVi (t_X9_takesDigits hM (fun w1 q1 => ?_))
  refine z_for (n := z_rn (z_dgt T) s T.1) (i0 := s) (fun i v => z_Sem mX9_takesDigits (sh.length, 0) 5 [(0, z_r 161)] [] (sh, v) _)
    (fun i v => z_f15 w v ∧ v 161 16 = s ∧ v 161 15 = i ∧ (i - s ≤ 3 → v 161 19 = z_dec (fun j => T.2 (s + j)) (i - s).toNat)) e1 ⟨by rw [q1]; exact z_f15W (by omega), by rw [q1, z_W_ne (Or.inr (by decide))]; exact h16, by rw [q1, z_W_ne (Or.inr (by decide))]; exact h15, fun _ => ?_⟩ ?_ ?_
  · rw [q1, z_W_same, show (s - s).toNat = 0 by omega]
    rfl
  · rintro v ⟨vf, v16, v15, v19⟩
    obtain ⟨b1, b2⟩ := z_fib (lo := 48) (hi := 57) (h.f15 vf) hB v15 (by omega) e2 (by omega) (by omega)
    refine t_X9_takesDigits_5 hM ⟨b2, fun _ => ?_, fun q => absurd (b1.mpr (fun c => e4 c.1 c.2)) q⟩
    rw [v15, v16]
    refine ⟨⟨by omega, by omega⟩, fun w8 q8 => ⟨_, rfl, rfl, k w8 ?_ ?_ ?_ ?_ ?_⟩⟩
    · refine vf.trans ?_
      rw [q8]
      exact z_f15W (by omega)
    · rw [q8, z_W_ne (Or.inr (by decide))]; exact v16
    · rw [q8, z_W_ne (Or.inr (by decide))]; exact v15
    · rw [q8, z_W_same]
    · intro c
      rw [q8, z_W_ne (Or.inr (by decide))]
      exact v19 c
  · rintro i v i0 i1 ⟨vf, v16, v15, v19⟩ kk
    have hv := h.f15 vf
    obtain ⟨b1, b2⟩ := z_fib (lo := 48) (hi := 57) hv hB v15 (by omega) (by omega) (by omega) (by omega)
    have hl := e3 i i0 i1
    have rb := hB.2 i (by omega) (by omega)
    have hl' : 48 ≤ T.2 i ∧ T.2 i ≤ 57 := hl
    have es : z_sg (T.2 i) = T.2 i := by
      unfold z_sg
      rw [if_pos (by omega)]
    have e162 : v 162 i = T.2 i := by rw [hv.2 i (by omega) (by omega), es]
    have hw : i - s ≤ 3 → 0 ≤ z_dec (fun j => T.2 (s + j)) (i - s).toNat ∧ z_dec (fun j => T.2 (s + j)) (i - s).toNat ≤ 999 := fun c => z_dec_9 (f := fun j => T.2 (s + j)) (k := (i - s).toNat) (fun j j0 j1 => e3 (s + j) (by omega) (by omega)) (by omega)
    refine t_X9_takesDigits_5 hM ⟨b2, fun q => absurd ⟨by omega, hl⟩ (b1.mp q), fun _ => ?_⟩
    rw [v15, v16, e162]
    refine ⟨⟨by omega, by omega⟩, fun c => ?_, fun w20 q20 => ?_⟩
    · have := hw (by omega)
      rw [v19 (by omega)]
      exact ⟨⟨by omega, by omega⟩, ⟨by omega, by omega⟩, ⟨by omega, by omega⟩, ⟨by omega, by omega⟩, True.intro⟩
    · have g15 : w20 161 15 = i := by rw [q20, z_W_ne (Or.inr (by decide))]; exact v15
      rw [g15]
      refine ⟨⟨by omega, by omega⟩, fun w22 q22 => kk w22 ⟨?_, ?_, ?_, fun c' => ?_⟩⟩
      · refine vf.trans ?_
        rw [q22, q20]
        exact (z_f15W (by omega)).trans (z_f15W (by omega))
      · rw [q22, z_W_ne (Or.inr (by decide)), q20, z_W_ne (Or.inr (by decide))]; exact v16
      · rw [q22, z_W_same]
      · rw [q22, z_W_ne (Or.inr (by decide)), q20, z_W_same, if_neg (by omega), v19 (by omega), show (i + 1 - s).toNat = (i - s).toNat + 1 by omega, z_dec]
        show 10 * z_dec (fun j => T.2 (s + j)) (i - s).toNat + T.2 i - 48 = 10 * z_dec (fun j => T.2 (s + j)) (i - s).toNat + (T.2 (s + (((i - s).toNat : Nat) : Int)) - 48)
        rw [show s + (((i - s).toNat : Nat) : Int) = i by omega]
        omega
theorem m_nextToken {sh : List z_C} {w : z_Mm} {T : z_T} {p : Int} {K : z_Mm → Prop} (hM : z_isMod sh 161) (h : z_tr w T) (hB : z_tbt T) (p0 : 0 ≤ p) (p1 : p ≤ T.1) (h15 : w 161 15 = p) (k : ∀ w', z_rtk w' (z_tok T p) → z_f15 w w' → K w') : z_CV mX9_nextToken [z_r 161] sh w K := by
  have t0 := hB.1
  obtain ⟨s1, s2, s3, s4⟩ := z_rn_is (g := z_spc T) p1
  have sg : ∀ i : Int, 0 ≤ i → i < T.1 → (z_sg (T.2 i) = 32 ↔ T.2 i = 32) ∧ (z_sg (T.2 i) = 10 ↔ T.2 i = 10) ∧ (z_sg (T.2 i) = 59 ↔ T.2 i = 59) := fun i i0 i1 => by
    have := hB.2 i i0 i1
    unfold z_sg
    split <;> omega
  have tail : ∀ u : z_Mm, z_f15 w u → u 161 15 = z_rn (z_spc T) p T.1 → ∀ w2, w2 = z_W u 161 16 (u 161 15) →
      (((w2 161 15) = (w2 161 1) → ∀ w18, w18 = z_W w2 161 17 0 → K w18) ∧ (¬ (w2 161 15) = (w2 161 1) → (s_X9_isByte w2 97 122) ∧ (((f_X9_isByte w2 97 122) = 0 → (s_X9_isByte w2 48 57) ∧ (((f_X9_isByte w2 48 57) = 0 → (0 ≤ (w2 161 15) ∧ (w2 161 15) < 900) ∧ ∀ w13, w13 = z_W w2 161 17 (if (w2 162 (w2 161 15)) = 59 then 3 else 4) → (z_R ((w13 161 15) + 1)) ∧ ∀ w15, w15 = z_W w13 161 15 ((w13 161 15) + 1) → K w15) ∧ (¬ (f_X9_isByte w2 48 57) = 0 → z_CV mX9_takesDigits [z_r 161] sh w2 (fun w16 => K w16)))) ∧ (¬ (f_X9_isByte w2 97 122) = 0 → z_CV mX9_takesLetters [z_r 161] sh w2 (fun w17 => K w17))))) := by
    intro u uf u15 w2 e2
    have f2 : z_f15 w w2 := uf.trans (by rw [e2]; exact z_f15W (by omega))
    have h2 := h.f15 f2
    have g15 : w2 161 15 = z_rn (z_spc T) p T.1 := by rw [e2, z_W_ne (Or.inr (by decide))]; exact u15
    have g16 : w2 161 16 = z_rn (z_spc T) p T.1 := by rw [e2, z_W_same]; exact u15
    obtain ⟨b1, b2⟩ := z_fib (lo := 97) (hi := 122) h2 hB g15 (by omega) s2 (by omega) (by omega)
    obtain ⟨d1, d2⟩ := z_fib (lo := 48) (hi := 57) h2 hB g15 (by omega) s2 (by omega) (by omega)
    rw [g15, h2.1]
    refine ⟨fun c w18 e18 => k w18 ?_ (f2.trans (by rw [e18]; exact z_f15W (by omega))), fun c => ⟨b2, fun q1 => ⟨d2, fun q2 => ⟨⟨by omega, by omega⟩, fun w13 e13 => ?_⟩, fun q2 => ?_⟩, fun q1 => ?_⟩⟩
    · rw [z_tok0 c]
      refine ⟨?_, ?_, ?_, fun q => absurd q (show ¬ (0 : Int) = 1 by decide), fun q => absurd q (show ¬ (0 : Int) = 5 by decide), fun q => absurd q (show ¬ (0 : Int) = 2 by decide)⟩
      · rw [e18, z_W_ne (Or.inr (by decide)), g16, c]
      · rw [e18, z_W_ne (Or.inr (by decide)), g15, c]
      · rw [e18, z_W_same]
        rfl
    · have hl : ¬ z_ltr T (z_rn (z_spc T) p T.1) := fun q => (b1.mp q1) ⟨by omega, q⟩
      have hd : ¬ z_dgt T (z_rn (z_spc T) p T.1) := fun q => (d1.mp q2) ⟨by omega, q⟩
      have i15 : w13 161 15 = z_rn (z_spc T) p T.1 := by rw [e13, z_W_ne (Or.inr (by decide)), g15]
      rw [i15]
      refine ⟨⟨by omega, by omega⟩, fun w15 e15 => k w15 ?_ (f2.trans (by rw [e15, e13]; exact (z_f15W (by omega)).trans (z_f15W (by omega))))⟩
      have hb := sg (z_rn (z_spc T) p T.1) (by omega) (by omega)
      have e162 := h2.2 (z_rn (z_spc T) p T.1) (by omega) (by omega)
      have g17 : w15 161 17 = if T.2 (z_rn (z_spc T) p T.1) = 59 then 3 else 4 := by
        rw [e15, z_W_ne (Or.inr (by decide)), e13, z_W_same, e162]
        by_cases q : T.2 (z_rn (z_spc T) p T.1) = 59
        · rw [if_pos q, if_pos (hb.2.2.mpr q)]
        · rw [if_neg q, if_neg (fun c => q (hb.2.2.mp c))]
      rw [z_tok3 c hl hd]
      refine ⟨?_, ?_, ?_, ?_, ?_, ?_⟩
      · rw [e15, z_W_ne (Or.inr (by decide)), e13, z_W_ne (Or.inr (by decide)), g16]
      · rw [e15, z_W_same]
      · rw [g17]
        show _ = if (if T.2 (z_rn (z_spc T) p T.1) = 59 then (3 : Int) else 4) = 5 then _ else _
        split <;> rfl
      · show (if T.2 (z_rn (z_spc T) p T.1) = 59 then (3 : Int) else 4) = 1 → _
        split <;> (intro q; exact absurd q (by decide))
      · show (if T.2 (z_rn (z_spc T) p T.1) = 59 then (3 : Int) else 4) = 5 → _
        split <;> (intro q; exact absurd q (by decide))
      · show (if T.2 (z_rn (z_spc T) p T.1) = 59 then (3 : Int) else 4) = 2 → _
        split <;> (intro q; exact absurd q (by decide))
    · have hl : ¬ z_ltr T (z_rn (z_spc T) p T.1) := fun q => (b1.mp q1) ⟨by omega, q⟩
      have hd : z_dgt T (z_rn (z_spc T) p T.1) := Classical.byContradiction fun q => q2 (d1.mpr (fun c => q c.2))
      refine m_takesDigits hM h2 hB (by omega) s2 g15 g16 (fun w' f' k16 k15 k17 k19 => k w' ?_ (f2.trans f'))
      by_cases h3 : z_rn (z_dgt T) (z_rn (z_spc T) p T.1) T.1 - z_rn (z_spc T) p T.1 ≤ 3
      · rw [z_tok2 c hl hd h3]
        rw [if_pos h3] at k17
        exact ⟨k16, k15, by rw [k17]; rfl, fun q => absurd q (show ¬ (2 : Int) = 1 by decide), fun q => absurd q (show ¬ (2 : Int) = 5 by decide), fun _ => k19 h3⟩
      · rw [z_tok4 c hl hd h3]
        rw [if_neg h3] at k17
        exact ⟨k16, k15, by rw [k17]; rfl, fun q => absurd q (show ¬ (4 : Int) = 1 by decide), fun q => absurd q (show ¬ (4 : Int) = 5 by decide), fun q => absurd q (show ¬ (4 : Int) = 2 by decide)⟩
    · have hl : z_ltr T (z_rn (z_spc T) p T.1) := Classical.byContradiction fun q => q1 (b1.mpr (fun c => q c.2))
      refine m_takesLetters hM h2 hB (by omega) s2 g15 g16 (fun w' f' k16 k15 k17 k18 => k w' ?_ (f2.trans f'))
      by_cases h5 : z_rn (z_ltr T) (z_rn (z_spc T) p T.1) T.1 - z_rn (z_spc T) p T.1 ≤ 5
      · rw [z_tok1 c hl h5]
        rw [if_pos h5] at k18
        exact ⟨k16, k15, by rw [k17]; rfl, fun _ => k18, fun q => absurd q (show ¬ (1 : Int) = 5 by decide), fun q => absurd q (show ¬ (1 : Int) = 2 by decide)⟩
      · rw [z_tok5 c hl h5]
        rw [if_neg h5] at k18
        exact ⟨k16, k15, by rw [k17]; rfl, fun q => absurd q (show ¬ (5 : Int) = 1 by decide), fun _ => k18, fun q => absurd q (show ¬ (5 : Int) = 2 by decide)⟩
  refine z_for (n := z_rn (z_spc T) p T.1) (i0 := p) (fun i v => z_Sem mX9_nextToken (sh.length, 0) 0 [(0, z_r 161)] [] (sh, v) (fun r σ => ∃ w' : z_Mm, r = none ∧ σ = (sh, w') ∧ K w')) (fun i v => z_f15 w v ∧ v 161 15 = i) s1 ⟨z_f15.rf, h15⟩ ?_ ?_
  · rintro v ⟨vf, v15⟩
    have hv := h.f15 vf
    refine t_X9_nextToken hM ⟨fun _ w2 e2 => ?_, fun c => ?_⟩
    · obtain ⟨a1, a2⟩ := tail v vf v15 w2 e2
      exact ⟨fun c w18 e18 => ⟨_, rfl, rfl, a1 c w18 e18⟩, fun c => by
        obtain ⟨x1, x2, x3⟩ := a2 c
        exact ⟨x1, fun q1 => by
          obtain ⟨y1, y2, y3⟩ := x2 q1
          exact ⟨y1, fun q2 => ⟨(y2 q2).1, fun w13 e13 => ⟨((y2 q2).2 w13 e13).1, fun w15 e15 => ⟨_, rfl, rfl, ((y2 q2).2 w13 e13).2 w15 e15⟩⟩⟩, fun q2 => z_CVm (y3 q2) (fun w' hw => ⟨w', rfl, rfl, ⟨_, rfl, rfl, hw⟩⟩)⟩, fun q1 => z_CVm (x3 q1) (fun w' hw => ⟨w', rfl, rfl, ⟨_, rfl, rfl, hw⟩⟩)⟩⟩
    · rw [hv.1, v15] at c
      have e162 := hv.2 (z_rn (z_spc T) p T.1) (by omega) (by omega)
      obtain ⟨g1, g2, -⟩ := sg (z_rn (z_spc T) p T.1) (by omega) (by omega)
      have no := s4 (by omega)
      rw [v15, e162]
      refine ⟨⟨by omega, by omega⟩, fun q => absurd (Or.inl (g1.mp q)) no, fun _ => ⟨⟨by omega, by omega⟩, fun q => absurd (Or.inr (g2.mp q)) no, fun _ w2 e2 => ?_⟩⟩
      obtain ⟨a1, a2⟩ := tail v vf v15 w2 (by rw [v15]; exact e2)
      exact ⟨fun c w18 e18 => ⟨_, rfl, rfl, a1 c w18 e18⟩, fun c => by
        obtain ⟨x1, x2, x3⟩ := a2 c
        exact ⟨x1, fun q1 => by
          obtain ⟨y1, y2, y3⟩ := x2 q1
          exact ⟨y1, fun q2 => ⟨(y2 q2).1, fun w13 e13 => ⟨((y2 q2).2 w13 e13).1, fun w15 e15 => ⟨_, rfl, rfl, ((y2 q2).2 w13 e13).2 w15 e15⟩⟩⟩, fun q2 => z_CVm (y3 q2) (fun w' hw => ⟨w', rfl, rfl, ⟨_, rfl, rfl, hw⟩⟩)⟩, fun q1 => z_CVm (x3 q1) (fun w' hw => ⟨w', rfl, rfl, ⟨_, rfl, rfl, hw⟩⟩)⟩⟩
  · rintro i v i0 i1 ⟨vf, v15⟩ kk
    have hv := h.f15 vf
    have e162 := hv.2 i (by omega) (by omega)
    obtain ⟨g1, g2, -⟩ := sg i (by omega) (by omega)
    have yes := s3 i i0 i1
    refine t_X9_nextToken hM ⟨fun c => absurd c (by rw [hv.1, v15]; omega), fun _ => ?_⟩
    rw [v15, e162]
    have nx : ∀ w22, w22 = z_W v 161 15 (i + 1) → z_f15 w w22 ∧ w22 161 15 = i + 1 := fun w22 e22 => ⟨vf.trans (by rw [e22]; exact z_f15W (by omega)), by rw [e22, z_W_same]⟩
    exact ⟨⟨by omega, by omega⟩, fun _ => ⟨⟨by omega, by omega⟩, fun w22 e22 => kk w22 (nx w22 e22)⟩, fun q1 => ⟨⟨by omega, by omega⟩, fun _ => ⟨⟨by omega, by omega⟩, fun w43 e43 => kk w43 (nx w43 e43)⟩, fun q2 => absurd yes (fun c => c.elim (fun x => q1 (g1.mpr x)) (fun x => q2 (g2.mpr x)))⟩⟩
