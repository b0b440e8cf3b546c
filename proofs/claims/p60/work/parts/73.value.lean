/-! GAP and VALUE -/
noncomputable def z_ge (A : z_A) : Nat → Int
  | 0 => 0
  | k + 1 => max (z_ge A k) (- z_dd A (-1) (k : Int) 0)
theorem z_ge_0 {A : z_A} : ∀ k : Nat, 0 ≤ z_ge A k
  | 0 => Int.le_refl _
  | k + 1 => by
    have := z_ge_0 (A := A) k
    rw [z_ge]
    omega
theorem z_ge_ub {A : z_A} : ∀ (k : Nat) (e : Int), 0 ≤ e → e < k → - z_dd A (-1) e 0 ≤ z_ge A k
  | 0, e, e0, e1 => absurd e1 (by omega)
  | k + 1, e, e0, e1 => by
    rw [z_ge]
    by_cases q : e = k
    · rw [q]; omega
    · have := z_ge_ub (A := A) k e e0 (by omega)
      omega
theorem z_ge_at {A : z_A} : ∀ k : Nat, z_ge A k = 0 ∨ ∃ e : Int, (0 ≤ e ∧ e < k) ∧ z_ge A k = - z_dd A (-1) e 0
  | 0 => Or.inl rfl
  | k + 1 => by
    rw [z_ge]
    rcases Int.le_total (- z_dd A (-1) (k : Int) 0) (z_ge A k) with q | q
    · rw [Int.max_eq_left q]
      rcases z_ge_at (A := A) k with h | ⟨e, h1, h2⟩
      · exact Or.inl h
      · exact Or.inr ⟨e, ⟨h1.1, by omega⟩, h2⟩
    · rw [Int.max_eq_right q]
      exact Or.inr ⟨k, ⟨by omega, by omega⟩, rfl⟩
theorem z_ge_u {A : z_A} {n v : Int} (hn : 0 ≤ n) (h0 : 0 ≤ v) (h1 : ∀ e : Int, 0 ≤ e → e < n → - z_dd A (-1) e 0 ≤ v) (h2 : v = 0 ∨ ∃ e : Int, 0 ≤ e ∧ e < n ∧ v = - z_dd A (-1) e 0) : v = z_ge A n.toNat := by
  have a0 := z_ge_0 (A := A) n.toNat
  have le1 : v ≤ z_ge A n.toNat := by
    rcases h2 with q | ⟨e, e0, e1, e2⟩
    · rw [q]; exact a0
    · rw [e2]; exact z_ge_ub n.toNat e e0 (by omega)
  have le2 : z_ge A n.toNat ≤ v := by
    rcases z_ge_at (A := A) n.toNat with q | ⟨e, e01, e2⟩
    · rw [q]; exact h0
    · rw [e2]; exact h1 e e01.1 (by have := e01.2; omega)
  exact Int.le_antisymm le1 le2
theorem c_ge {sh : List z_C} {w : z_Mm} {A : z_A} {K : Int → z_Mm → Prop} (hT : z_isTG sh 0) (hA : z_okg A) (hb : z_bears A) (hn : z_net w 12 A (-1)) (k : K (z_ge A (A 1 0).toNat) w) : z_CI mX2_greatestEarliest [z_r 12] sh w K := by
  have r1 := hA.2.1
  refine c_greatest hT.2.2.1 (z_sv_A hA hb (-1)) hn.1 (fun v hv h1 h2 => ?_)
  rw [z_ge_u (A := A) (n := A 1 0) (by omega) hv.1 h1 h2]
  exact k
/-- GAP -/
noncomputable def z_b2 (p : Prop) : Int := @ite _ p (Classical.propDecidable p) 1 0
noncomputable def z_qg (A : z_A) (g p : Int) : Int :=
  if 0 ≤ g ∧ g < A 2 0 then (if p = 0 then A 3 g else if p = 1 then A 4 g else if p = 2 then A 5 g else if p = 3 then A 6 g else if p = 4 then A 7 g else if p = 5 then z_b2 (z_tg A g) else if p = 6 then z_b2 (z_need A g)
    else if p = 7 then (if A 7 g = 0 then 0 else (z_gs A g).2.2.1 - z_dd A (-1) (z_gs A g).1 (z_gs A g).2.1) else -1) else -1
theorem c_gap {sh : List z_C} {w : z_Mm} {A : z_A} {H : List z_A} {g p : Int} {K : Int → z_Mm → Prop} (hT : z_isTG sh 0) (hs : z_cs w A H) (k : ∀ w', z_cs w' A H → z_frC w w' → K (z_qg A g p) w') : z_CI mX8_gap [z_r 0, z_i g, z_i p] sh w K := by
  obtain ⟨hA, hp, hn, -, -⟩ := id hs
  have r2 := hA.1.2.2.1
  have p11 : w 1 11 = A 2 0 := hp.1.2.2.1
  have k0 := k w hs z_frC.rf
  unfold z_qg at k k0
  have h1 := z_fgp (w := w) (g := g)
  rw [p11] at h1
  refine z_CIi (t_X8_gap hT ⟨fun c => ?_, fun c => ?_⟩)
  · rw [if_neg (h1.mp c)] at k0
    exact ⟨_, _, rfl, rfl, k0⟩
  · have d : 0 ≤ g ∧ g < A 2 0 := Classical.byContradiction fun q => c (h1.mpr q)
    rw [if_pos d] at k k0
    have hnb := hn.nb hA.1 hA.2.1
    obtain ⟨v4, v5, v6, v7, v8⟩ := hp.1.2.2.2.1 g d.1 d.2
    have e9 : w 9 g = A 7 g := v8
    have rr := hA.1.2.2.2.1 g d.1 d.2
    have et := z_cti hA.1 hA.2.1 hp.1 hnb d.1 d.2
    obtain ⟨b1, b2, -, b4⟩ := z_gs_bl hA.1 d.1 d.2
    have rd := z_dd_R (lo := -1) hA.1 hA.2.1 b1 b2
    have el := (z_cbe hp.1 d.1 d.2).2.2
    have eb := z_cbo hA.1 hA.2.1 hp.1 hnb d.1 d.2
    have hr : 0 ≤ g ∧ g < 24 := by omega
    refine ⟨fun q => ⟨hr, _, _, rfl, rfl, ?_⟩, fun q => ⟨hr, _, _, rfl, rfl, ?_⟩, fun q => ⟨hr, _, _, rfl, rfl, ?_⟩, fun q => ⟨hr, _, _, rfl, rfl, ?_⟩, fun q => ⟨hr, _, _, rfl, rfl, ?_⟩, fun q => ⟨z_scti hA.1 hA.2.1 hp.1 hnb d.1 d.2, _, _, rfl, rfl, ?_⟩, fun q => ?_, fun q => ⟨hr, fun _ => ⟨(z_scbe hA.1 hp.1 d.1 d.2).2.2, z_scbo hA.1 hA.2.1 hp.1 hnb d.1 d.2, ?_, True.intro⟩, _, _, rfl, rfl, ?_⟩, fun q => ⟨_, _, rfl, rfl, ?_⟩⟩
    · rw [if_pos q] at k0
      rw [show w 5 g = A 3 g from v4]; exact k0
    · rw [if_neg (by omega), if_pos q] at k0
      rw [show w 6 g = A 4 g from v5]; exact k0
    · rw [if_neg (by omega), if_neg (by omega), if_pos q] at k0
      rw [show w 7 g = A 5 g from v6]; exact k0
    · rw [if_neg (by omega), if_neg (by omega), if_neg (by omega), if_pos q] at k0
      rw [show w 8 g = A 6 g from v7]; exact k0
    · rw [if_neg (by omega), if_neg (by omega), if_neg (by omega), if_neg (by omega), if_pos q] at k0
      rw [e9, z_asn rr.2.2.2.2.2]; exact k0
    · rw [if_neg (by omega), if_neg (by omega), if_neg (by omega), if_neg (by omega), if_neg (by omega), if_pos q] at k0
      have : f_X8_asNumber w (f_X8_isTight w g) = z_b2 (z_tg A g) := by
        unfold f_X8_asNumber z_b2
        by_cases c5 : f_X8_isTight w g = 0
        · rw [if_pos c5, if_neg (et.mp c5)]
        · rw [if_neg c5, if_pos (Classical.byContradiction fun c => c5 (et.mpr c))]
      rw [this]; exact k0
    · refine c_isNeeded hT hA.1 hA.2.1 hp.1 hnb d.1 d.2 (fun c6 w9 f9 => ⟨_, _, rfl, rfl, ?_⟩) (fun c6 w9 f9 => ⟨_, _, rfl, rfl, ?_⟩)
      · have k9 := k w9 (hs.fr f9) (fun a ha => f9 a (by omega))
        rw [if_neg (by omega), if_neg (by omega), if_neg (by omega), if_neg (by omega), if_neg (by omega), if_neg (by omega), if_pos q, show z_b2 (z_need A g) = 1 from if_pos c6] at k9
        exact k9
      · have k9 := k w9 (hs.fr f9) (fun a ha => f9 a (by omega))
        rw [if_neg (by omega), if_neg (by omega), if_neg (by omega), if_neg (by omega), if_neg (by omega), if_neg (by omega), if_pos q, show z_b2 (z_need A g) = 0 from if_neg c6] at k9
        exact k9
    · rw [el, eb]; exact ⟨by omega, by omega⟩
    · rw [if_neg (by omega), if_neg (by omega), if_neg (by omega), if_neg (by omega), if_neg (by omega), if_neg (by omega), if_neg (by omega), if_pos q] at k0
      rw [e9, el, eb]; exact k0
    · rw [if_neg (by omega), if_neg (by omega), if_neg (by omega), if_neg (by omega), if_neg (by omega), if_neg (by omega), if_neg (by omega), if_neg (by omega)] at k0
      exact k0
