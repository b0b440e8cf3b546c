/-! SLOWEST -/
/-- the greatest earliest time with a gap off -/
noncomputable def z_gf (A : z_A) (g : Int) : Int := z_ge (z_up A 7 g 0) (A 1 0).toNat
noncomputable def z_slw (A : z_A) : Nat → Int × Int
  | 0 => (-2, 0)
  | k + 1 => if A 7 (k : Int) = 0 then z_slw A k else if (z_slw A k).1 = -2 then ((k : Int), z_gf A (k : Int)) else if (z_slw A k).2 ≤ z_gf A (k : Int) then z_slw A k else ((k : Int), z_gf A (k : Int))
theorem z_slw_s {A : z_A} {i : Int} (i0 : 0 ≤ i) : z_slw A (i + 1).toNat = if A 7 i = 0 then z_slw A i.toNat else if (z_slw A i.toNat).1 = -2 then (i, z_gf A i) else if (z_slw A i.toNat).2 ≤ z_gf A i then z_slw A i.toNat else (i, z_gf A i) := by
  rw [show (i + 1).toNat = i.toNat + 1 by omega, z_slw, show ((i.toNat : Nat) : Int) = i by omega]
theorem z_slw_R {A : z_A} : ∀ k : Nat, (z_slw A k).1 = -2 ∨ 0 ≤ (z_slw A k).1
  | 0 => Or.inl rfl
  | k + 1 => by
    have := z_slw_R (A := A) k
    rw [z_slw]
    split
    · exact this
    · split
      · exact Or.inr (by show 0 ≤ (k : Int); omega)
      · split
        · exact this
        · exact Or.inr (by show 0 ≤ (k : Int); omega)
