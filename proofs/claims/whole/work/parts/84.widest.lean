/-! WIDEST and FREEST -/
noncomputable def z_wst (A : z_A) (i j : Int) (s : Int × Int) : Int × Int := if i = j then s else if s.1 = -2 then (10 * i + j, z_dd A (-1) i j) else if z_dd A (-1) i j ≤ s.2 then s else (10 * i + j, z_dd A (-1) i j)
noncomputable def z_wi (A : z_A) (i : Int) (s : Int × Int) : Nat → Int × Int
  | 0 => s
  | k + 1 => z_wst A i (k : Int) (z_wi A i s k)
noncomputable def z_wo (A : z_A) (n : Nat) : Nat → Int × Int
  | 0 => (-2, 0)
  | k + 1 => z_wi A (k : Int) (z_wo A n k) n
def z_wg (s : Int × Int) : Prop := (s.1 = -2 ∨ (0 ≤ s.1 ∧ s.1 ≤ 99)) ∧ -999 ≤ s.2 ∧ s.2 ≤ 999
theorem z_wst_g {A : z_A} {i j : Int} {s : Int × Int} (hA : z_okg A) (hb : z_bears A) (hi : z_bl (A 1 0) i) (hj : z_bl (A 1 0) j) (h : z_wg s) : z_wg (z_wst A i j s) := by
  have r1 := hA.2.1
  have rd := z_dd_R (lo := -1) hA hb hi hj
  obtain ⟨i0, i1⟩ := hi
  obtain ⟨j0, j1⟩ := hj
  unfold z_wst
  split
  · exact h
  · split
    · exact ⟨Or.inr ⟨by show 0 ≤ 10 * i + j; omega, by show 10 * i + j ≤ 99; omega⟩, rd⟩
    · split
      · exact h
      · exact ⟨Or.inr ⟨by show 0 ≤ 10 * i + j; omega, by show 10 * i + j ≤ 99; omega⟩, rd⟩
theorem z_wi_g {A : z_A} {i : Int} {s : Int × Int} (hA : z_okg A) (hb : z_bears A) (hi : z_bl (A 1 0) i) (h : z_wg s) : ∀ k : Nat, (k : Int) ≤ A 1 0 → z_wg (z_wi A i s k)
  | 0, _ => h
  | k + 1, q => z_wst_g hA hb hi ⟨by omega, by omega⟩ (z_wi_g hA hb hi h k (by omega))
theorem z_wo_g {A : z_A} (hA : z_okg A) (hb : z_bears A) : ∀ k : Nat, (k : Int) ≤ A 1 0 → z_wg (z_wo A (A 1 0).toNat k)
  | 0, _ => ⟨Or.inl rfl, by show -999 ≤ (0 : Int); omega, by show (0 : Int) ≤ 999; omega⟩
  | k + 1, q => z_wi_g hA hb ⟨by omega, by omega⟩ (z_wo_g hA hb k (by omega)) _ (by have := hA.2.1; omega)
theorem z_wi_s {A : z_A} {i j : Int} {s : Int × Int} (j0 : 0 ≤ j) : z_wi A i s (j + 1).toNat = z_wst A i j (z_wi A i s j.toNat) := by
  have ek : (j + 1).toNat = j.toNat + 1 := by omega
  rw [ek, z_wi, show ((j.toNat : Nat) : Int) = j by omega]
theorem z_wo_s {A : z_A} {n : Nat} {i : Int} (i0 : 0 ≤ i) : z_wo A n (i + 1).toNat = z_wi A i (z_wo A n i.toNat) n := by
  have ek : (i + 1).toNat = i.toNat + 1 := by omega
  rw [ek, z_wo, show ((i.toNat : Nat) : Int) = i by omega]
noncomputable def z_qw (A : z_A) : Int := (z_wo A (A 1 0).toNat (A 1 0).toNat).1
theorem c_widest {sh : List z_C} {w : z_Mm} {A : z_A} {H : List z_A} {K : Int → z_Mm → Prop} (hT : z_isTG sh 0) (hs : z_cs w A H) (k : K (z_qw A) w) : z_CI mX8_widest [z_r 0] sh w K := by
  obtain ⟨hA, hp, hn, -, -⟩ := hs
  have r1 := hA.1.2.1
  have p10 : w 1 10 = A 1 0 := hp.1.2.1
  have hnb := hn.nb hA.1 hA.2.1
  refine z_CIi (t_X8_widest hT ?_)
  refine z_for (n := A 1 0) (i0 := 0) (fun i v => z_Sem mX8_widest (sh.length, 0) 7 [(0, z_r 0), (1, z_i (z_wo A (A 1 0).toNat i.toNat).1), (2, z_i (z_wo A (A 1 0).toNat i.toNat).2), (3, z_i i)] [] (sh, v) _) (fun i v => v = w) (by omega) rfl ?_ ?_
  · rintro v rfl
    exact t_X8_widest_7 hT ⟨fun _ => ⟨_, _, rfl, rfl, k⟩, fun c => absurd c (by omega)⟩
  · rintro i v i0 i1 rfl kk
    have kk' := kk v rfl
    refine t_X8_widest_7 hT ⟨fun c => absurd c (by omega), fun _ => ?_⟩
    refine z_for (n := A 1 0) (i0 := 0) (fun j u => z_Sem mX8_widest (sh.length, 0) 21 [(0, z_r 0), (1, z_i (z_wi A i (z_wo A (A 1 0).toNat i.toNat) j.toNat).1), (2, z_i (z_wi A i (z_wo A (A 1 0).toNat i.toNat) j.toNat).2), (3, z_i i), (4, z_i j)] [] (sh, u) _) (fun j u => u = v) (by omega) rfl ?_ ?_
    · rintro u rfl
      rw [z_wo_s i0] at kk'
      exact t_X8_widest_21 hT ⟨fun _ => ⟨⟨by omega, by omega⟩, kk'⟩, fun c => absurd c (by omega)⟩
    · rintro j u j0 j1 rfl k2
      have k2' := k2 u rfl
      obtain ⟨e1, s1⟩ := z_cbt hA.1 hA.2.1 hnb (a := i) (b := j) ⟨i0, i1⟩ ⟨j0, j1⟩
      have go := z_wi_g hA.1 hA.2.1 (i := i) ⟨i0, i1⟩ (z_wo_g hA.1 hA.2.1 i.toNat (by omega)) j.toNat (by omega)
      refine t_X8_widest_21 hT ⟨fun c => absurd c (by omega), fun _ => ⟨s1, fun y4 e4 => ?_⟩⟩
      rw [e1] at e4
      rw [z_wi_s j0] at k2'
      generalize z_wi A i (z_wo A (A 1 0).toNat i.toNat) j.toNat = s at go k2' ⊢
      refine ⟨fun _ => ⟨fun _ => ⟨⟨by omega, by omega⟩, ⟨by omega, by omega⟩, True.intro⟩, fun _ => ⟨fun _ => ⟨⟨by omega, by omega⟩, ⟨by omega, by omega⟩, True.intro⟩, True.intro⟩, True.intro⟩, ⟨by omega, by omega⟩, ?_⟩
      rw [e4]
      have u1 : (z_wst A i j s).1 = if i = j then s.1 else if s.1 = -2 then 10 * i + j else if z_dd A (-1) i j ≤ s.2 then s.1 else 10 * i + j := by
        unfold z_wst
        (repeat' split) <;> rfl
      have u2 : (z_wst A i j s).2 = if i = j then s.2 else if s.1 = -2 then z_dd A (-1) i j else if z_dd A (-1) i j ≤ s.2 then s.2 else z_dd A (-1) i j := by
        unfold z_wst
        (repeat' split) <;> rfl
      rw [u1, u2] at k2'
      exact k2'
theorem m_widest {sh : List z_C} {w : z_Mm} {A : z_A} {H : List z_A} {K : Int → z_Mm → Prop} (hM : z_isMod sh 161) (hs : z_ms w A H) (hA : z_okg A) (hb : z_bears A)
    (k : ∀ w', z_ms w' A H → z_frM w w' → K (z_qw A) w') : z_CI mX9_widest [z_r 161] sh w K := by
  have r1 := hA.2.1
  refine z_CIi (t_X9_widest hM ?_)
  refine m_laysB hM hA hb hs.1.1 (fun w1 l1 g1 f1 => ?_)
  have k1 := k w1 (hs.L f1) f1.M
  have p1 : w1 163 1 = A 1 0 := g1.2.1
  refine z_for (n := A 1 0) (i0 := 0) (fun i v => z_Sem mX9_widest (sh.length, 0) 14 [(0, z_r 161), (2, z_i (z_wo A (A 1 0).toNat i.toNat).1), (3, z_i (if (z_wo A (A 1 0).toNat i.toNat).1 = -2 then -1000000 else (z_wo A (A 1 0).toNat i.toNat).2)), (4, z_i i)] [] (sh, v) _) (fun i v => v = w1) (by omega) rfl ?_ ?_
  · rintro v rfl
    exact t_X9_widest_14 hM ⟨fun _ => ⟨_, _, rfl, rfl, k1⟩, fun c => absurd c (by omega)⟩
  · rintro i v i0 i1 rfl kk
    have kk' := kk v rfl
    refine t_X9_widest_14 hM ⟨fun c => absurd c (by omega), fun _ => ?_⟩
    refine z_for (n := A 1 0) (i0 := 0) (fun j u => z_Sem mX9_widest (sh.length, 0) 28 [(0, z_r 161), (2, z_i (z_wi A i (z_wo A (A 1 0).toNat i.toNat) j.toNat).1), (3, z_i (if (z_wi A i (z_wo A (A 1 0).toNat i.toNat) j.toNat).1 = -2 then -1000000 else (z_wi A i (z_wo A (A 1 0).toNat i.toNat) j.toNat).2)), (4, z_i i), (5, z_i j)] [] (sh, u) _) (fun j u => u = v) (by omega) rfl ?_ ?_
    · rintro u rfl
      rw [z_wo_s i0] at kk'
      exact t_X9_widest_28 hM ⟨fun _ => ⟨⟨by omega, by omega⟩, kk'⟩, fun c => absurd c (by omega)⟩
    · rintro j u j0 j1 rfl k2
      have k2' := k2 u rfl
      obtain ⟨e1, s1⟩ := z_mbt hA hb l1 (a := i) (b := j) ⟨i0, i1⟩ ⟨j0, j1⟩
      have rd := z_dd_R (lo := -1) hA hb (a := i) (b := j) ⟨i0, i1⟩ ⟨j0, j1⟩
      have go := z_wi_g hA hb (i := i) ⟨i0, i1⟩ (z_wo_g hA hb i.toNat (by omega)) j.toNat (by omega)
      refine t_X9_widest_28 hM ⟨fun c => absurd c (by omega), fun _ => ?_⟩
      rw [e1]
      rw [z_wi_s j0] at k2'
      generalize z_wi A i (z_wo A (A 1 0).toNat i.toNat) j.toNat = s at go k2' ⊢
      refine ⟨fun _ => ⟨s1, fun _ => ⟨⟨by omega, by omega⟩, ⟨by omega, by omega⟩, s1, True.intro⟩, True.intro⟩, ⟨by omega, by omega⟩, ?_⟩
      have u1 : (z_wst A i j s).1 = if i = j then s.1 else if z_dd A (-1) i j ≤ (if s.1 = -2 then -1000000 else s.2) then s.1 else 10 * i + j := by
        unfold z_wst
        by_cases c1 : i = j
        · rw [if_pos c1, if_pos c1]
        · by_cases c2 : s.1 = -2
          · rw [if_neg c1, if_neg c1, if_pos c2, if_pos c2, if_neg (show ¬ z_dd A (-1) i j ≤ -1000000 by omega)]
          · rw [if_neg c1, if_neg c1, if_neg c2, if_neg c2]
            split <;> rfl
      have u2 : (if (z_wst A i j s).1 = -2 then -1000000 else (z_wst A i j s).2) = if i = j then (if s.1 = -2 then -1000000 else s.2) else if z_dd A (-1) i j ≤ (if s.1 = -2 then -1000000 else s.2) then (if s.1 = -2 then -1000000 else s.2) else z_dd A (-1) i j := by
        unfold z_wst
        by_cases c1 : i = j
        · rw [if_pos c1, if_pos c1]
        · by_cases c2 : s.1 = -2
          · rw [if_neg c1, if_neg c1, if_pos c2, if_pos c2, if_neg (show ¬ z_dd A (-1) i j ≤ -1000000 by omega)]
            exact if_neg (show ¬ 10 * i + j = -2 by omega)
          · rw [if_neg c1, if_neg c1, if_neg c2, if_neg c2]
            by_cases c3 : z_dd A (-1) i j ≤ s.2
            · rw [if_pos c3, if_pos c3, if_neg c2]
            · rw [if_neg c3, if_neg c3]
              exact if_neg (show ¬ 10 * i + j = -2 by omega)
      rw [u2, u1] at k2'
      exact k2'
/-- FREEST -/
noncomputable def z_rmo (A : z_A) (e : Int) : Int := z_dd A (-1) 0 e + z_dd A (-1) e 0
noncomputable def z_frs (A : z_A) : Nat → Int
  | 0 => 0
  | k + 1 => if z_rmo A (k : Int) ≤ z_rmo A (z_frs A k) then z_frs A k else (k : Int)
theorem z_frs_R {A : z_A} : ∀ k : Nat, 0 ≤ z_frs A k ∧ (z_frs A k = 0 ∨ z_frs A k < k)
  | 0 => ⟨Int.le_refl _, Or.inl rfl⟩
  | k + 1 => by
    have := z_frs_R (A := A) k
    rw [z_frs]
    split <;> omega
theorem z_frs_1 {A : z_A} : z_frs A 1 = 0 := by
  show (if _ then (0 : Int) else 0) = 0
  split <;> rfl
theorem z_frs_s {A : z_A} {i : Int} (i0 : 0 ≤ i) : z_frs A (i + 1).toNat = if z_rmo A i ≤ z_rmo A (z_frs A i.toNat) then z_frs A i.toNat else i := by
  have ek : (i + 1).toNat = i.toNat + 1 := by omega
  rw [ek, z_frs, show ((i.toNat : Nat) : Int) = i by omega]
theorem c_freest {sh : List z_C} {w : z_Mm} {A : z_A} {H : List z_A} {K : Int → z_Mm → Prop} (hT : z_isTG sh 0) (hs : z_cs w A H) (k : K (z_frs A (A 1 0).toNat) w) : z_CI mX8_freest [z_r 0] sh w K := by
  obtain ⟨hA, hp, hn, -, -⟩ := hs
  have r1 := hA.1.2.1
  have p10 : w 1 10 = A 1 0 := hp.1.2.1
  have hsv := z_sv_A hA.1 hA.2.1 (-1)
  refine z_CIi (t_X8_freest hT ?_)
  have e1 : z_i 0 = z_i (z_frs A (1 : Int).toNat) := by rw [show (1 : Int).toNat = 1 from rfl, z_frs_1]
  rw [e1]
  refine z_for (n := A 1 0) (i0 := 1) (fun i v => z_Sem mX8_freest (sh.length, 0) 4 [(0, z_r 0), (1, z_i (z_frs A i.toNat)), (2, z_i i)] [] (sh, v) _) (fun i v => v = w) (by omega) rfl ?_ ?_
  · rintro v rfl
    exact t_X8_freest_4 hT ⟨fun _ => ⟨_, _, rfl, rfl, k⟩, fun c => absurd c (by omega)⟩
  · rintro i v i0 i1 rfl kk
    have kk' := kk v rfl
    have hi : z_bl (A 1 0) i := ⟨by omega, i1⟩
    have rf := z_frs_R (A := A) i.toNat
    have hf : z_bl (A 1 0) (z_frs A i.toNat) := ⟨rf.1, by omega⟩
    refine t_X8_freest_4 hT ⟨fun c => absurd c (by omega), fun _ => ?_⟩
    rw [z_fpt hsv hn.1 hi, z_fpt hsv hn.1 hf]
    refine ⟨z_spt hsv hn.1 hi, z_spt hsv hn.1 hf, ⟨by omega, by omega⟩, ?_⟩
    rw [z_frs_s (by omega)] at kk'
    have eq : (if z_Dd (z_Sx A (-1)) (A 1 0) 0 i + z_Dd (z_Sx A (-1)) (A 1 0) i 0 + 1 ≤ z_Dd (z_Sx A (-1)) (A 1 0) 0 (z_frs A i.toNat) + z_Dd (z_Sx A (-1)) (A 1 0) (z_frs A i.toNat) 0 + 1 then z_frs A i.toNat else i) = if z_rmo A i ≤ z_rmo A (z_frs A i.toNat) then z_frs A i.toNat else i := by
      have ei : z_rmo A i = z_Dd (z_Sx A (-1)) (A 1 0) 0 i + z_Dd (z_Sx A (-1)) (A 1 0) i 0 := rfl
      have ef : z_rmo A (z_frs A i.toNat) = z_Dd (z_Sx A (-1)) (A 1 0) 0 (z_frs A i.toNat) + z_Dd (z_Sx A (-1)) (A 1 0) (z_frs A i.toNat) 0 := rfl
      by_cases c : z_rmo A i ≤ z_rmo A (z_frs A i.toNat)
      · rw [if_pos c, if_pos (by omega)]
      · rw [if_neg c, if_neg (by omega)]
    rw [eq]
    exact kk'
theorem m_freest {sh : List z_C} {w : z_Mm} {A : z_A} {H : List z_A} {K : Int → z_Mm → Prop} (hM : z_isMod sh 161) (hs : z_ms w A H) (hA : z_okg A) (hb : z_bears A)
    (k : ∀ w', z_ms w' A H → z_frM w w' → K (z_frs A (A 1 0).toNat) w') : z_CI mX9_freest [z_r 161] sh w K := by
  have r1 := hA.2.1
  refine z_CIi (t_X9_freest hM ?_)
  refine m_laysB hM hA hb hs.1.1 (fun w1 l1 g1 f1 => ?_)
  have k1 := k w1 (hs.L f1) f1.M
  have p1 : w1 163 1 = A 1 0 := g1.2.1
  have e1 : z_i 0 = z_i (z_frs A (1 : Int).toNat) := by rw [show (1 : Int).toNat = 1 from rfl, z_frs_1]
  rw [e1]
  refine z_for (n := A 1 0) (i0 := 1) (fun i v => z_Sem mX9_freest (sh.length, 0) 9 [(0, z_r 161), (2, z_i (z_frs A i.toNat)), (3, z_i i)] [] (sh, v) _) (fun i v => v = w1) (by omega) rfl ?_ ?_
  · rintro v rfl
    exact t_X9_freest_9 hM ⟨fun _ => ⟨_, _, rfl, rfl, k1⟩, fun c => absurd c (by omega)⟩
  · rintro i v i0 i1 rfl kk
    have kk' := kk v rfl
    have hi : z_bl (A 1 0) i := ⟨by omega, i1⟩
    have rf := z_frs_R (A := A) i.toNat
    have hf : z_bl (A 1 0) (z_frs A i.toNat) := ⟨rf.1, by omega⟩
    obtain ⟨a1, a2⟩ := z_mro l1 hA hb hi
    obtain ⟨b1, b2⟩ := z_mro l1 hA hb hf
    refine t_X9_freest_9 hM ⟨fun c => absurd c (by omega), fun _ => ⟨a2, b2, fun y8 e8 => ⟨⟨by omega, by omega⟩, ?_⟩⟩⟩
    rw [a1, b1] at e8
    rw [z_frs_s (by omega)] at kk'
    rw [e8]
    exact kk'
