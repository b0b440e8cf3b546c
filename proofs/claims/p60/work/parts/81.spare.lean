/-! SPARE -/
noncomputable def z_qsp (A : z_A) (g : Int) : Int := if 0 ≤ g ∧ g < A 2 0 then (if A 7 g = 0 then -3 else if A 5 g = 0 then A 6 g - z_ti A (A 3 g) (A 4 g) (A 5 g) else z_ti A (A 3 g) (A 4 g) (A 5 g) - A 6 g) else -1
theorem z_ti_le {A : z_A} {g : Int} (hA : z_okg A) (hb : z_bears A) (g0 : 0 ≤ g) (g1 : g < A 2 0) (h7 : ¬ A 7 g = 0) : (0 ≤ z_ti A (A 3 g) (A 4 g) (A 5 g) ∧ z_ti A (A 3 g) (A 4 g) (A 5 g) ≤ 999) ∧ (A 5 g = 0 → z_ti A (A 3 g) (A 4 g) (A 5 g) ≤ A 6 g) ∧ (¬ A 5 g = 0 → A 6 g ≤ z_ti A (A 3 g) (A 4 g) (A 5 g)) := by
  obtain ⟨r1, r2, -, r4, r5, -⟩ := hA.2.2.2.1 g g0 g1
  obtain ⟨y, hy⟩ := id hb
  have hg := ((z_F_g g0 g1).mp hy).2 h7
  have hd := z_isd hA hb (-1)
  have a1 := (hd (A 4 g) (A 3 g) r2 r1).1 y ((z_F_iff hA).mpr hy)
  have a2 := (hd (A 3 g) (A 4 g) r1 r2).1 y ((z_F_iff hA).mpr hy)
  have ra := z_dd_R (lo := -1) hA hb r1 r2
  have rb := z_dd_R (lo := -1) hA hb r2 r1
  unfold z_Fg at hg
  unfold z_ti
  by_cases c : A 5 g = 0
  · rw [if_pos c] at hg
    simp only [if_pos c]
    exact ⟨by omega, fun _ => by omega, fun q => absurd c q⟩
  · rw [if_neg c] at hg
    simp only [if_neg c]
    rw [if_neg (by omega)]
    exact ⟨by omega, fun q => absurd q c, fun _ => by omega⟩
