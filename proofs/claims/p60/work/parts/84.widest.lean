/-! WIDEST and FREEST -/
noncomputable def z_wst (A : z_A) (i j : Int) (s : Int × Int) : Int × Int := if i = j then s else if s.1 = -2 then (10 * i + j, z_dd A (-1) i j) else if z_dd A (-1) i j ≤ s.2 then s else (10 * i + j, z_dd A (-1) i j)
noncomputable def z_wi (A : z_A) (i : Int) (s : Int × Int) : Nat → Int × Int
  | 0 => s
  | k + 1 => z_wst A i (k : Int) (z_wi A i s k)
noncomputable def z_wo (A : z_A) (n : Nat) : Nat → Int × Int
  | 0 => (-2, 0)
  | k + 1 => z_wi A (k : Int) (z_wo A n k) n
def z_wg (s : Int × Int) : Prop := (s.1 = -2 ∨ (0 ≤ s.1 ∧ s.1 ≤ 99)) ∧ -999 ≤ s.2 ∧ s.2 ≤ 999
theorem z_wst_g {A : z_A} {i j : Int} {s : Int × Int} (hA : z_okg A) (hb : z_bears A) (hi : z_bl (A 1 0) i) (hj : z_bl (A 1 0) j) (h : z_wg s) : z_wg (z_wst A i j s) := by
  have r1 := hA.2.1
  have rd := z_dd_R (lo := -1) hA hb hi hj
  obtain ⟨i0, i1⟩ := hi
  obtain ⟨j0, j1⟩ := hj
  unfold z_wst
  split
  · exact h
  · split
    · exact ⟨Or.inr ⟨by show 0 ≤ 10 * i + j; omega, by show 10 * i + j ≤ 99; omega⟩, rd⟩
    · split
      · exact h
      · exact ⟨Or.inr ⟨by show 0 ≤ 10 * i + j; omega, by show 10 * i + j ≤ 99; omega⟩, rd⟩
theorem z_wi_g {A : z_A} {i : Int} {s : Int × Int} (hA : z_okg A) (hb : z_bears A) (hi : z_bl (A 1 0) i) (h : z_wg s) : ∀ k : Nat, (k : Int) ≤ A 1 0 → z_wg (z_wi A i s k)
  | 0, _ => h
  | k + 1, q => z_wst_g hA hb hi ⟨by omega, by omega⟩ (z_wi_g hA hb hi h k (by omega))
theorem z_wo_g {A : z_A} (hA : z_okg A) (hb : z_bears A) : ∀ k : Nat, (k : Int) ≤ A 1 0 → z_wg (z_wo A (A 1 0).toNat k)
  | 0, _ => ⟨Or.inl rfl, by show -999 ≤ (0 : Int); omega, by show (0 : Int) ≤ 999; omega⟩
  | k + 1, q => z_wi_g hA hb ⟨by omega, by omega⟩ (z_wo_g hA hb k (by omega)) _ (by have := hA.2.1; omega)
theorem z_wi_s {A : z_A} {i j : Int} {s : Int × Int} (j0 : 0 ≤ j) : z_wi A i s (j + 1).toNat = z_wst A i j (z_wi A i s j.toNat) := by
  have ek : (j + 1).toNat = j.toNat + 1 := by omega
  rw [ek, z_wi, show ((j.toNat : Nat) : Int) = j by omega]
theorem z_wo_s {A : z_A} {n : Nat} {i : Int} (i0 : 0 ≤ i) : z_wo A n (i + 1).toNat = z_wi A i (z_wo A n i.toNat) n := by
  have ek : (i + 1).toNat = i.toNat + 1 := by omega
  rw [ek, z_wo, show ((i.toNat : Nat) : Int) = i by omega]
noncomputable def z_qw (A : z_A) : Int := (z_wo A (A 1 0).toNat (A 1 0).toNat).1
/-- FREEST -/
noncomputable def z_rmo (A : z_A) (e : Int) : Int := z_dd A (-1) 0 e + z_dd A (-1) e 0
noncomputable def z_frs (A : z_A) : Nat → Int
  | 0 => 0
  | k + 1 => if z_rmo A (k : Int) ≤ z_rmo A (z_frs A k) then z_frs A k else (k : Int)
theorem z_frs_R {A : z_A} : ∀ k : Nat, 0 ≤ z_frs A k ∧ (z_frs A k = 0 ∨ z_frs A k < k)
  | 0 => ⟨Int.le_refl _, Or.inl rfl⟩
  | k + 1 => by
    have := z_frs_R (A := A) k
    rw [z_frs]
    split <;> omega
theorem z_frs_1 {A : z_A} : z_frs A 1 = 0 := by
  show (if _ then (0 : Int) else 0) = 0
  split <;> rfl
theorem z_frs_s {A : z_A} {i : Int} (i0 : 0 ≤ i) : z_frs A (i + 1).toNat = if z_rmo A i ≤ z_rmo A (z_frs A i.toNat) then z_frs A i.toNat else i := by
  have ek : (i + 1).toNat = i.toNat + 1 := by omega
  rw [ek, z_frs, show ((i.toNat : Nat) : Int) = i by omega]
theorem c_freest {sh : List z_C} {w : z_Mm} {A : z_A} {H : List z_A} {K : Int → z_Mm → Prop} (hT : z_isTG sh 0) (hs : z_cs w A H) (k : K (z_frs A (A 1 0).toNat) w) : z_CI mX8_freest [z_r 0] sh w K := by
  obtain ⟨hA, hp, hn, -, -⟩ := hs
  have r1 := hA.1.2.1
  have p10 : w 1 10 = A 1 0 := hp.1.2.1
  have hsv := z_sv_A hA.1 hA.2.1 (-1)
  refine z_CIi (t_X8_freest hT ?_)
  have e1 : z_i 0 = z_i (z_frs A (1 : Int).toNat) := by rw [show (1 : Int).toNat = 1 from rfl, z_frs_1]
  rw [e1]
  refine z_for (n := A 1 0) (i0 := 1) (fun i v => z_Sem mX8_freest (sh.length, 0) 4 [(0, z_r 0), (1, z_i (z_frs A i.toNat)), (2, z_i i)] [] (sh, v) _) (fun i v => v = w) (by omega) rfl ?_ ?_
  · rintro v rfl
    exact t_X8_freest_4 hT ⟨fun _ => ⟨_, _, rfl, rfl, k⟩, fun c => absurd c (by omega)⟩
  · rintro i v i0 i1 rfl kk
    have kk' := kk v rfl
    have hi : z_bl (A 1 0) i := ⟨by omega, i1⟩
    have rf := z_frs_R (A := A) i.toNat
    have hf : z_bl (A 1 0) (z_frs A i.toNat) := ⟨rf.1, by omega⟩
    refine t_X8_freest_4 hT ⟨fun c => absurd c (by omega), fun _ => ?_⟩
    rw [z_fpt hsv hn.1 hi, z_fpt hsv hn.1 hf]
    refine ⟨z_spt hsv hn.1 hi, z_spt hsv hn.1 hf, ⟨by omega, by omega⟩, ?_⟩
    rw [z_frs_s (by omega)] at kk'
    have eq : (if z_Dd (z_Sx A (-1)) (A 1 0) 0 i + z_Dd (z_Sx A (-1)) (A 1 0) i 0 + 1 ≤ z_Dd (z_Sx A (-1)) (A 1 0) 0 (z_frs A i.toNat) + z_Dd (z_Sx A (-1)) (A 1 0) (z_frs A i.toNat) 0 + 1 then z_frs A i.toNat else i) = if z_rmo A i ≤ z_rmo A (z_frs A i.toNat) then z_frs A i.toNat else i := by
      have ei : z_rmo A i = z_Dd (z_Sx A (-1)) (A 1 0) 0 i + z_Dd (z_Sx A (-1)) (A 1 0) i 0 := rfl
      have ef : z_rmo A (z_frs A i.toNat) = z_Dd (z_Sx A (-1)) (A 1 0) 0 (z_frs A i.toNat) + z_Dd (z_Sx A (-1)) (A 1 0) (z_frs A i.toNat) 0 := rfl
      by_cases c : z_rmo A i ≤ z_rmo A (z_frs A i.toNat)
      · rw [if_pos c, if_pos (by omega)]
      · rw [if_neg c, if_neg (by omega)]
    rw [eq]
    exact kk'
