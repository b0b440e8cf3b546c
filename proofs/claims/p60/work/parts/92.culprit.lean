/-! CULPRIT -/
theorem z_off_F {A : z_A} {g : Int} (hA : z_okg A) (hb : z_bears A) (g0 : 0 ≤ g) (g1 : g < A 2 0) : z_okg (z_up A 7 g 0) ∧ z_bears (z_up A 7 g 0) ∧ ∀ x, z_F (z_up A 7 g 0) (-1) x ↔ z_F A g x := by
  have hB : z_okg (z_up A 7 g 0) := z_only_on.okg hA (by rw [z_up_ne (Or.inl (by decide))]; exact (hA.2.2.2.1 g g0 g1).2.2.2.2.1) (by rw [z_up_same]; omega)
  refine ⟨hB, z_only_on.off g0 g1 hb z_up_same, fun x => ?_⟩
  rw [z_only_on.F g0 g1]
  exact ⟨fun h => h.1, fun h => ⟨h, fun c => absurd z_up_same c⟩⟩
theorem z_dd_off {A : z_A} {g a b : Int} (hA : z_okg A) (hb : z_bears A) (g0 : 0 ≤ g) (g1 : g < A 2 0) (ha : z_bl (A 1 0) a) (hb' : z_bl (A 1 0) b) : z_dd (z_up A 7 g 0) (-1) a b = z_dd A g a b := by
  obtain ⟨hB, hbB, hF⟩ := z_off_F hA hb g0 g1
  have b10 : z_up A 7 g 0 1 0 = A 1 0 := z_up_ne (Or.inl (by decide))
  have h1 := z_isd hB hbB (-1)
  rw [b10] at h1
  exact z_IsD_uniq (z_IsD_congr (S' := z_Sx A g) (fun x => by rw [z_F_iff hB, hF, z_F_iff hA]) h1) (z_isd hA hb g) ha hb'
theorem z_lr_off {A : z_A} {g one oth kd n : Int} (hA : z_okg A) (hb : z_bears A) (g0 : 0 ≤ g) (g1 : g < A 2 0) (h1 : z_bl (A 1 0) one) (h2 : z_bl (A 1 0) oth) : z_lr (z_up A 7 g 0) (-1) one oth kd n = z_lr A g one oth kd n := by
  have := z_dd_off hA hb g0 g1 (z_bg_bl (kd := kd) h2 h1) (z_bg_bl (kd := kd) h1 h2)
  show (if kd = 0 then n else -n) + z_dd (z_up A 7 g 0) (-1) (z_bg kd oth one) (z_bg kd one oth) = (if kd = 0 then n else -n) + z_dd A g (z_bg kd oth one) (z_bg kd one oth)
  rw [this]
def z_cup (A : z_A) (one oth kd n g : Int) : Prop := ¬ A 7 g = 0 ∧ 0 ≤ z_lr A g one oth kd n
noncomputable def z_qcu (A : z_A) (one oth kd n : Int) : Int :=
  if (0 ≤ one ∧ one < A 1 0) ∧ (0 ≤ oth ∧ oth < A 1 0) ∧ one ≠ oth ∧ (0 ≤ kd ∧ kd ≤ 1) ∧ (0 ≤ n ∧ n ≤ 999) then
    (if z_lr A (-1) one oth kd n < 0 then z_fi1 (z_cup A one oth kd n) (A 2 0) else -2) else -1
theorem c_culprit {sh : List z_C} {w : z_Mm} {A : z_A} {H : List z_A} {one oth kd n : Int} {K : Int → z_Mm → Prop} (hT : z_isTG sh 0) (hs : z_cs w A H) (k : ∀ w', (∀ a : Nat, (a < 18 ∨ 23 < a) → w' a = w a) → K (z_qcu A one oth kd n) w') : z_CI mX8_culprit [z_r 0, z_i one, z_i oth, z_i kd, z_i n] sh w K := by
  obtain ⟨hA, hp, hn, -, -⟩ := hs
  have p10 : w 1 10 = A 1 0 := hp.1.2.1
  have r2 := hA.1.2.2.1
  have h1 := z_ftl (w := w) (one := one) (oth := oth) (kd := kd) (n := n)
  rw [p10] at h1
  have hsv := z_sv_A hA.1 hA.2.1 (-1)
  have hnb := hn.nb hA.1 hA.2.1
  unfold z_qcu at k
  refine z_CIi (t_X8_culprit hT ⟨fun c => ?_, fun c => ?_⟩)
  · rw [if_neg (h1.mp c)] at k
    exact ⟨_, _, rfl, rfl, k w (fun _ _ => rfl)⟩
  have d : (0 ≤ one ∧ one < A 1 0) ∧ (0 ≤ oth ∧ oth < A 1 0) ∧ one ≠ oth ∧ (0 ≤ kd ∧ kd ≤ 1) ∧ (0 ≤ n ∧ n ≤ 999) := Classical.byContradiction fun q => c (h1.mpr q)
  obtain ⟨d1, d2, d3, d4, d5⟩ := id d
  rw [if_pos d] at k
  have el : f_X2_leastRing w 12 one oth kd n = z_lr A (-1) one oth kd n := z_flr hsv hn.1 d1 d2
  rw [el]
  refine ⟨z_slr hsv hn.1 d1 d2 d5, fun c2 => ?_, fun c2 => ?_⟩
  · rw [if_pos c2] at k
    refine z_for (n := A 2 0) (i0 := 0) (fun i v => z_Sem mX8_culprit (sh.length, 0) 35 [(0, z_r 0), (1, z_i one), (2, z_i oth), (3, z_i kd), (4, z_i n), (5, z_i i)] [] (sh, v) _)
      (fun i v => (∀ a : Nat, (a < 18 ∨ 23 < a) → v a = w a) ∧ ∀ h : Int, 0 ≤ h → h < i → ¬ z_cup A one oth kd n h) (by omega) ⟨fun _ _ => rfl, fun h h0 h1 => absurd h1 (by omega)⟩ ?_ ?_
    · rintro v ⟨vf, vn⟩
      rw [z_fi1_of (Or.inl ⟨rfl, vn⟩)] at k
      have p11 : v 1 11 = A 2 0 := by rw [vf 1 (by omega)]; exact hp.1.2.2.1
      exact t_X8_culprit_35 hT ⟨fun _ => ⟨_, _, rfl, rfl, k v vf⟩, fun c => absurd c (by omega)⟩
    · rintro i v i0 i1 ⟨vf, vn⟩ kk
      have p11 : v 1 11 = A 2 0 := by rw [vf 1 (by omega)]; exact hp.1.2.2.1
      have p9 : v 9 i = A 7 i := by rw [vf 9 (by omega)]; exact (hp.1.2.2.2.1 i i0 i1).2.2.2.2
      have hpv : z_pg v 1 A := hp.1.fr (fun a a0 a1 => vf a (by omega))
      have hnv : z_nb v A := hnb.fr (vf 12 (by omega)) (vf 17 (by omega))
      have nx : ¬ z_cup A one oth kd n i → ∀ h : Int, 0 ≤ h → h < i + 1 → ¬ z_cup A one oth kd n h := fun hh h h0 h1 => by
        by_cases q : h = i
        · rw [q]; exact hh
        · exact vn h h0 (by omega)
      refine t_X8_culprit_35 hT ⟨fun c => absurd c (by omega), fun _ => ⟨⟨by omega, by omega⟩, fun c3 => ⟨⟨by omega, by omega⟩, kk v ⟨vf, nx (fun q => q.1 (by omega))⟩⟩, fun c3 => ?_⟩⟩
      refine c_try hT hA.1 hA.2.1 hpv hnv i0 i1 (fun w5 S hS hd hF hf => ?_)
      have fr : ∀ a : Nat, (a < 18 ∨ 23 < a) → w5 a = w a := fun a ha => (hf a ha).trans (vf a ha)
      have e5 : f_X2_leastRing w5 18 one oth kd n = z_lr A i one oth kd n := by
        rw [z_flr hS hd d1 d2]
        show (if kd = 0 then n else -n) + z_Dd S (A 1 0) (z_bg kd oth one) (z_bg kd one oth) = (if kd = 0 then n else -n) + z_dd A i (z_bg kd oth one) (z_bg kd one oth)
        rw [z_dd_S hA.1 hA.2.1 hS hF (z_bg_bl d2 d1) (z_bg_bl d1 d2)]
      rw [e5]
      refine ⟨z_slr hS hd d1 d2 d5, fun c4 => ⟨⟨by omega, by omega⟩, kk w5 ⟨fr, nx (fun q => by have := q.2; omega)⟩⟩, fun c4 => ?_⟩
      rw [z_fi1_of (Or.inr ⟨i0, i1, ⟨by omega, by omega⟩, vn⟩)] at k
      exact ⟨_, _, rfl, rfl, k w5 fr⟩
  · rw [if_neg c2] at k
    exact ⟨_, _, rfl, rfl, k w (fun _ _ => rfl)⟩
theorem z_frM.c {w w' : z_Mm} {b : Nat} (hb : b = 163 ∨ b = 164 ∨ b = 165) (h : ∀ c : Nat, c ≠ b → w' c = w c) : z_frX w w' := (z_frM.of hb h).X
