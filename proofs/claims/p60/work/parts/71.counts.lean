/-! COUNTS -/
noncomputable def z_ct (p : Int → Prop) : Nat → Int
  | 0 => 0
  | k + 1 => z_ct p k + @ite _ (p (k : Int)) (Classical.propDecidable _) 1 0
theorem z_ct_R {p : Int → Prop} : ∀ k : Nat, 0 ≤ z_ct p k ∧ z_ct p k ≤ k
  | 0 => ⟨Int.le_refl _, Int.le_refl _⟩
  | k + 1 => by
    have := z_ct_R (p := p) k
    rw [z_ct]
    split <;> omega
theorem z_ct_y {p : Int → Prop} {i t y : Int} (i0 : 0 ≤ i) (h : (t = 1 ∧ p i) ∨ (t = 0 ∧ ¬ p i)) (hy : y = z_ct p i.toNat + t) : y = z_ct p (i + 1).toNat := by
  have ek : (i + 1).toNat = i.toNat + 1 := by omega
  rw [ek, z_ct, show ((i.toNat : Nat) : Int) = i by omega, hy]
  rcases h with ⟨a, b⟩ | ⟨a, b⟩
  · rw [if_pos b, a]
  · rw [if_neg b, a]
def z_onp (A : z_A) (g : Int) : Prop := ¬ A 7 g = 0
def z_ofp (A : z_A) (e g : Int) : Prop := ¬ A 7 g = 0 ∧ (A 3 g = e ∨ A 4 g = e)
theorem c_countOn {sh : List z_C} {w : z_Mm} {A : z_A} {K : Int → z_Mm → Prop} (hT : z_isTG sh 0) (hA : z_okg A) (hp : z_pg w 1 A) (k : K (z_ct (z_onp A) (A 2 0).toNat) w) : z_CI mX3_countOn [z_r 1] sh w K := by
  have r2 := hA.2.2.1
  have p11 : w 1 11 = A 2 0 := hp.2.2.1
  refine z_CIi (t_X3_countOn hT.2.1 ?_)
  refine z_for (n := A 2 0) (i0 := 0) (fun i v => z_Sem mX3_countOn (sh.length, 0) 4 [(0, z_r 1), (1, z_i (z_ct (z_onp A) i.toNat)), (2, z_i i)] [] (sh, v) _) (fun i v => v = w) (by omega) rfl ?_ ?_
  · rintro v rfl
    exact t_X3_countOn_4 hT.2.1 ⟨fun _ => ⟨_, _, rfl, rfl, k⟩, fun c => absurd c (by omega)⟩
  · rintro i v i0 i1 rfl kk
    have e9 : v (1 + 8) i = A 7 i := (hp.2.2.2.1 i i0 i1).2.2.2.2
    have r7 := (hA.2.2.2.1 i i0 i1).2.2.2.2.2
    have rc := z_ct_R (p := z_onp A) i.toNat
    have kk' := kk v rfl
    refine t_X3_countOn_4 hT.2.1 ⟨fun c => absurd c (by omega), fun _ => ?_⟩
    rw [e9, z_asn r7]
    refine ⟨⟨i0, by omega⟩, ⟨by omega, by omega⟩, fun y4 e4 => ⟨⟨by omega, by omega⟩, ?_⟩⟩
    rw [z_ct_y (p := z_onp A) i0 (by unfold z_onp; omega) e4]
    exact kk'
theorem c_countTight {sh : List z_C} {w : z_Mm} {A : z_A} {K : Int → z_Mm → Prop} (hT : z_isTG sh 0) (hA : z_okg A) (hb : z_bears A) (hp : z_pg w 1 A) (hn : z_nb w A) (k : K (z_ct (z_tg A) (A 2 0).toNat) w) : z_CI mX8_countTight [z_r 0] sh w K := by
  have r2 := hA.2.2.1
  have p11 : w 1 11 = A 2 0 := hp.2.2.1
  refine z_CIi (t_X8_countTight hT ?_)
  refine z_for (n := A 2 0) (i0 := 0) (fun i v => z_Sem mX8_countTight (sh.length, 0) 4 [(0, z_r 0), (1, z_i (z_ct (z_tg A) i.toNat)), (2, z_i i)] [] (sh, v) _) (fun i v => v = w) (by omega) rfl ?_ ?_
  · rintro v rfl
    exact t_X8_countTight_4 hT ⟨fun _ => ⟨_, _, rfl, rfl, k⟩, fun c => absurd c (by omega)⟩
  · rintro i v i0 i1 rfl kk
    have et := z_cti hA hb hp hn i0 i1
    have rc := z_ct_R (p := z_tg A) i.toNat
    have kk' := kk v rfl
    have ed : (f_X8_asNumber v (f_X8_isTight v i) = 1 ∧ z_tg A i) ∨ (f_X8_asNumber v (f_X8_isTight v i) = 0 ∧ ¬ z_tg A i) := by
      unfold f_X8_asNumber
      by_cases q : f_X8_isTight v i = 0
      · exact Or.inr ⟨if_pos q, et.mp q⟩
      · exact Or.inl ⟨if_neg q, Classical.byContradiction fun c => q (et.mpr c)⟩
    refine t_X8_countTight_4 hT ⟨fun c => absurd c (by omega), fun _ => ⟨z_scti hA hb hp hn i0 i1, ⟨by omega, by omega⟩, fun y4 e4 => ⟨⟨by omega, by omega⟩, ?_⟩⟩⟩
    rw [z_ct_y (p := z_tg A) i0 ed e4]
    exact kk'
theorem c_countNeeded {sh : List z_C} {w : z_Mm} {A : z_A} {K : Int → z_Mm → Prop} (hT : z_isTG sh 0) (hA : z_okg A) (hb : z_bears A) (hp : z_pg w 1 A) (hn : z_nb w A) (k : ∀ w', (∀ a : Nat, (a < 18 ∨ 23 < a) → w' a = w a) → K (z_ct (z_need A) (A 2 0).toNat) w') : z_CI mX8_countNeeded [z_r 0] sh w K := by
  have r2 := hA.2.2.1
  refine z_CIi (t_X8_countNeeded hT ?_)
  refine z_for (n := A 2 0) (i0 := 0) (fun i v => z_Sem mX8_countNeeded (sh.length, 0) 4 [(0, z_r 0), (1, z_i (z_ct (z_need A) i.toNat)), (2, z_i i)] [] (sh, v) _) (fun i v => ∀ a : Nat, (a < 18 ∨ 23 < a) → v a = w a) (by omega) (fun _ _ => rfl) ?_ ?_
  · rintro v vf
    have p11 : v 1 11 = A 2 0 := by rw [vf 1 (by omega)]; exact hp.2.2.1
    exact t_X8_countNeeded_4 hT ⟨fun _ => ⟨_, _, rfl, rfl, k v vf⟩, fun c => absurd c (by omega)⟩
  · rintro i v i0 i1 vf kk
    have p11 : v 1 11 = A 2 0 := by rw [vf 1 (by omega)]; exact hp.2.2.1
    have rc := z_ct_R (p := z_need A) i.toNat
    refine t_X8_countNeeded_4 hT ⟨fun c => absurd c (by omega), fun _ => ?_⟩
    refine c_isNeeded hT hA hb (hp.fr (fun a a0 a1 => vf a (by omega))) (hn.fr (vf 12 (by omega)) (vf 17 (by omega))) i0 i1 (fun q w2 f2 => ?_) (fun q w2 f2 => ?_)
    · refine ⟨⟨by rw [z_asn (by decide)]; omega, by rw [z_asn (by decide)]; omega⟩, fun y5 e5 => ⟨⟨by omega, by omega⟩, ?_⟩⟩
      rw [z_asn (by decide)] at e5
      rw [z_ct_y (p := z_need A) i0 (Or.inl ⟨rfl, q⟩) e5]
      exact kk w2 (fun a ha => by rw [f2 a ha, vf a ha])
    · refine ⟨⟨by rw [z_asn (by decide)]; omega, by rw [z_asn (by decide)]; omega⟩, fun y5 e5 => ⟨⟨by omega, by omega⟩, ?_⟩⟩
      rw [z_asn (by decide)] at e5
      rw [z_ct_y (p := z_need A) i0 (Or.inr ⟨rfl, q⟩) e5]
      exact kk w2 (fun a ha => by rw [f2 a ha, vf a ha])
