/-! THE REFERENCE'S BOUNDS: steps at 168 .. 171 (their number at 161, 13), bounds at 172 -/
/-- a plan in a row of the reference's numbers -/
def z_mg (f : Int → Int) (A : z_A) : Prop := f 0 = A 0 0 ∧ f 1 = A 1 0 ∧ f 2 = A 2 0 ∧
  (∀ g : Int, 0 ≤ g → g < A 2 0 → f (13 + 5 * g + 0) = A 3 g ∧ f (13 + 5 * g + 1) = A 4 g ∧ f (13 + 5 * g + 2) = A 5 g ∧ f (13 + 5 * g + 3) = A 6 g ∧ f (13 + 5 * g + 4) = A 7 g) ∧
  (∀ e : Int, 0 ≤ e → e < A 1 0 → f (133 + e) = A 8 e + 1)
/-- only the steps and the bounds are touched -/
def z_frL (w w' : z_Mm) : Prop := (∀ a : Nat, a ≠ 161 → (a < 168 ∨ 172 < a) → w' a = w a) ∧ ∀ j : Int, j ≠ 13 → w' 161 j = w 161 j
theorem z_frL.trans {w w1 w2 : z_Mm} (h1 : z_frL w w1) (h2 : z_frL w1 w2) : z_frL w w2 := ⟨fun a h h' => (h2.1 a h h').trans (h1.1 a h h'), fun j h => (h2.2 j h).trans (h1.2 j h)⟩
theorem z_frL.rf {w : z_Mm} : z_frL w w := ⟨fun _ _ _ => rfl, fun _ _ => rfl⟩
theorem z_frLW {w : z_Mm} {b : Nat} {i x : Int} (h : 168 ≤ b ∧ b ≤ 172) : z_frL w (z_W w b i x) := ⟨fun a h1 h2 => z_Wf (by omega), fun j _ => z_W_ne (Or.inl (by omega))⟩
theorem z_frLW1 {w : z_Mm} {x : Int} : z_frL w (z_W w 161 13 x) := ⟨fun a h1 _ => z_Wf h1, fun j h => z_W_ne (Or.inr h)⟩
section ZGAP
variable {w : z_Mm} {A : z_A} {g : Int}
end ZGAP
theorem z_mg.frL {w w' : z_Mm} {A : z_A} (h : z_mg (w 163) A) (hf : z_frL w w') : z_mg (w' 163) A := by rw [hf.1 163 (by omega) (by omega)]; exact h
