/-! PAIRS -/
def z_prp (A : z_A) (r i j : Int) : Prop := i < j ∧ z_rel A i j = r
noncomputable def z_prs (A : z_A) (r : Int) (n : Nat) : Nat → Int
  | 0 => 0
  | k + 1 => z_prs A r n k + z_ct (z_prp A r (k : Int)) n
theorem z_prs_R {A : z_A} {r : Int} {n : Nat} : ∀ k : Nat, k ≤ 10 → n ≤ 10 → 0 ≤ z_prs A r n k ∧ z_prs A r n k ≤ 10 * k
  | 0, _, _ => ⟨Int.le_refl _, Int.le_refl _⟩
  | k + 1, h, hn => by
    have := z_prs_R (A := A) (r := r) (n := n) k (by omega) hn
    have := z_ct_R (p := z_prp A r (k : Int)) n
    rw [z_prs]
    omega
theorem z_prs_s {A : z_A} {r i : Int} {n : Nat} (i0 : 0 ≤ i) : z_prs A r n (i + 1).toNat = z_prs A r n i.toNat + z_ct (z_prp A r i) n := by
  have ek : (i + 1).toNat = i.toNat + 1 := by omega
  rw [ek, z_prs, show ((i.toNat : Nat) : Int) = i by omega]
theorem z_prp_0 {A : z_A} {r i : Int} : ∀ k : Nat, (k : Int) ≤ i + 1 → z_ct (z_prp A r i) k = 0
  | 0, _ => rfl
  | k + 1, h => by
    rw [z_ct, z_prp_0 k (by omega), if_neg]
    · rfl
    · rintro ⟨a, -⟩
      omega
noncomputable def z_qpr (A : z_A) (r : Int) : Int := if 0 ≤ r ∧ r ≤ 5 then z_prs A r (A 1 0).toNat (A 1 0).toNat else -1
theorem c_pairs {sh : List z_C} {w : z_Mm} {A : z_A} {H : List z_A} {r : Int} {K : Int → z_Mm → Prop} (hT : z_isTG sh 0) (hs : z_cs w A H) (k : K (z_qpr A r) w) : z_CI mX8_pairs [z_r 0, z_i r] sh w K := by
  obtain ⟨hA, hp, hn, -, -⟩ := hs
  have r1 := hA.1.2.1
  have p10 : w 1 10 = A 1 0 := hp.1.2.1
  have hnb := hn.nb hA.1 hA.2.1
  unfold z_qpr at k
  refine z_CIi (t_X8_pairs hT ⟨fun c => ?_, fun c => ⟨fun c2 => ?_, fun c2 => ?_⟩⟩)
  · rw [if_neg (by omega)] at k
    exact ⟨_, _, rfl, rfl, k⟩
  · rw [if_pos (by omega)] at k
    refine z_for (n := A 1 0) (i0 := 0) (fun i v => z_Sem mX8_pairs (sh.length, 0) 15 [(0, z_r 0), (1, z_i r), (2, z_i (z_prs A r (A 1 0).toNat i.toNat)), (3, z_i i)] [] (sh, v) _) (fun i v => v = w) (by omega) rfl ?_ ?_
    · rintro v rfl
      exact t_X8_pairs_15 hT ⟨fun _ => ⟨_, _, rfl, rfl, k⟩, fun c => absurd c (by omega)⟩
    · rintro i v i0 i1 rfl kk
      have kk' := kk v rfl
      have rs := z_prs_R (A := A) (r := r) (n := (A 1 0).toNat) i.toNat (by omega) (by omega)
      refine t_X8_pairs_15 hT ⟨fun c => absurd c (by omega), fun _ => ⟨⟨by omega, by omega⟩, ?_⟩⟩
      have e0 : z_prs A r (A 1 0).toNat i.toNat = z_prs A r (A 1 0).toNat i.toNat + z_ct (z_prp A r i) (i + 1).toNat := by rw [z_prp_0 _ (by omega), Int.add_zero]
      rw [e0]
      refine z_for (n := A 1 0) (i0 := i + 1) (fun j u => z_Sem mX8_pairs (sh.length, 0) 31 [(0, z_r 0), (1, z_i r), (2, z_i (z_prs A r (A 1 0).toNat i.toNat + z_ct (z_prp A r i) j.toNat)), (3, z_i i), (4, z_i j)] [] (sh, u) _) (fun j u => u = v) (by omega) rfl ?_ ?_
      · rintro u rfl
        rw [z_prs_s i0] at kk'
        exact t_X8_pairs_31 hT ⟨fun _ => ⟨⟨by omega, by omega⟩, kk'⟩, fun c => absurd c (by omega)⟩
      · rintro j u j0 j1 rfl k2
        have k2' := k2 u rfl
        obtain ⟨e1, s1⟩ := z_crel hA.1 hA.2.1 hnb (a := i) (b := j) ⟨i0, i1⟩ ⟨by omega, j1⟩
        have rc := z_ct_R (p := z_prp A r i) j.toNat
        refine t_X8_pairs_31 hT ⟨fun c => absurd c (by omega), fun _ => ?_⟩
        rw [e1]
        have ed : (f_X8_asNumber u (if z_rel A i j = r then 1 else 0) = 1 ∧ z_prp A r i j) ∨ (f_X8_asNumber u (if z_rel A i j = r then 1 else 0) = 0 ∧ ¬ z_prp A r i j) := by
          unfold f_X8_asNumber
          by_cases q : z_rel A i j = r
          · exact Or.inl ⟨by rw [if_pos q]; rfl, by omega, q⟩
          · exact Or.inr ⟨by rw [if_neg q]; rfl, fun c => q c.2⟩
        refine ⟨s1, ⟨by omega, by omega⟩, fun y9 e9 => ⟨⟨by omega, by omega⟩, ?_⟩⟩
        have ey : y9 = z_prs A r (A 1 0).toNat i.toNat + z_ct (z_prp A r i) (j + 1).toNat := by
          have := z_ct_y (p := z_prp A r i) (i := j) (by omega) ed rfl
          omega
        rw [ey]
        exact k2'
  · rw [if_neg (by omega)] at k
    exact ⟨_, _, rfl, rfl, k⟩
