/-! THE REFERENCE'S BOOKKEEPING: begins, fails, done, undo, logs -/
theorem z_mg.cg {f f' : Int → Int} {A : z_A} (h : z_mg f A) (hA : z_okg A) (hf : ∀ j : Int, 0 ≤ j → j < 264 → f' j = f j) : z_mg f' A := by
  obtain ⟨hE, hn, hg, -⟩ := hA
  obtain ⟨h1, h2, h3, h4, h5⟩ := h
  refine ⟨by rw [hf 0 (by omega) (by omega), h1], by rw [hf 1 (by omega) (by omega), h2], by rw [hf 2 (by omega) (by omega), h3], fun g g0 g1 => ?_, fun e e0 e1 => ?_⟩
  · rw [hf _ (by omega) (by omega), hf _ (by omega) (by omega), hf _ (by omega) (by omega), hf _ (by omega) (by omega), hf _ (by omega) (by omega)]
    exact h4 g g0 g1
  · rw [hf _ (by omega) (by omega)]
    exact h5 e e0 e1
theorem z_mr.cg {f f' : Int → Int} {A : z_A} (h : z_mr f A) (hA : z_okg A) (hf : ∀ j : Int, 0 ≤ j → j < 264 → f' j = f j) : z_mr f' A := by
  obtain ⟨h1, h2, h3, h4, h5⟩ := h
  have hn := hA.2.1
  refine ⟨h1.cg hA hf, fun e e0 e1 => ?_, h3, by rw [hf 143 (by omega) (by omega), h4], fun i i0 i1 => ?_⟩
  · rw [hf _ (by omega) (by omega)]
    exact h2 e e0 e1
  · rw [hf _ (by omega) (by omega), hf _ (by omega) (by omega), hf _ (by omega) (by omega)]
    exact h5 i i0 i1
/-- one row like another -/
def z_row (f g : Int → Int) : Prop := ∀ j : Int, 0 ≤ j → j < 264 → f j = g j
/-- the reference's history -/
def z_hm (w : z_Mm) (H : List z_A) : Prop := H.length ≤ 8 ∧ w 161 8 = (H.length : Int) ∧ ∀ (k : Nat) (B : z_A), H[k]? = some B → z_mr (fun j => w 165 (264 * (k : Int) + j)) B
theorem z_hm.fr {w w' : z_Mm} {H : List z_A} (h : z_hm w H) (h8 : w' 161 8 = w 161 8) (h5 : w' 165 = w 165) : z_hm w' H := by
  unfold z_hm
  rw [h8, h5]
  exact h
/-- what the reference leaves alone when it changes its plan -/
def z_frM (w w' : z_Mm) : Prop := (∀ a : Nat, a ≠ 161 → a ≠ 163 → a ≠ 164 → a ≠ 165 → (a < 168 ∨ 172 < a) → w' a = w a) ∧ ∀ j : Int, j ≠ 8 → j ≠ 13 → w' 161 j = w 161 j
theorem z_frM.rf {w : z_Mm} : z_frM w w := ⟨fun _ _ _ _ _ _ => rfl, fun _ _ _ => rfl⟩
theorem z_frM.trans {w w1 w2 : z_Mm} (h1 : z_frM w w1) (h2 : z_frM w1 w2) : z_frM w w2 := ⟨fun a a1 a2 a3 a4 a5 => (h2.1 a a1 a2 a3 a4 a5).trans (h1.1 a a1 a2 a3 a4 a5), fun j j1 j2 => (h2.2 j j1 j2).trans (h1.2 j j1 j2)⟩
theorem z_frM.of {w w' : z_Mm} {a : Nat} (ha : a = 163 ∨ a = 164 ∨ a = 165) (h : ∀ c : Nat, c ≠ a → w' c = w c) : z_frM w w' := ⟨fun b _ b2 b3 b4 _ => h b (by omega), fun j _ _ => by rw [h 161 (by omega)]⟩
theorem z_frL.M {w w' : z_Mm} (h : z_frL w w') : z_frM w w' := ⟨fun a a1 _ _ _ a5 => h.1 a a1 a5, fun j _ j2 => h.2 j j2⟩
