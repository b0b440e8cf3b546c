/-! VALUE -/
noncomputable def z_qv (A : z_A) (H : List z_A) (p : Int) : Int :=
  if p = 0 then A 0 0 else if p = 1 then A 1 0 else if p = 2 then A 2 0 else if p = 3 then z_ct (z_onp A) (A 2 0).toNat else if p = 4 then z_np A (A 1 0).toNat else if p = 5 then ((z_Sx A (-1)).length : Int)
  else if p = 6 then z_ct (z_tg A) (A 2 0).toNat else if p = 7 then z_ct (z_need A) (A 2 0).toNat else if p = 8 then z_ct (z_stp A) (A 1 0).toNat else if p = 9 then z_ge A (A 1 0).toNat else if p = 10 then z_ro A (A 1 0).toNat
  else if p = 11 then A 10 0 else if p = 12 then (H.length : Int) else -1
theorem c_value {sh : List z_C} {w : z_Mm} {A : z_A} {H : List z_A} {p : Int} {K : Int → z_Mm → Prop} (hT : z_isTG sh 0) (hs : z_cs w A H) (k : ∀ w', z_cs w' A H → z_frC w w' → K (z_qv A H p) w') : z_CI mX8_value [z_r 0, z_i p] sh w K := by
  obtain ⟨hA, hp, hn, -, hh⟩ := id hs
  have hnb := hn.nb hA.1 hA.2.1
  have k0 := k w hs z_frC.rf
  refine z_CIi (t_X8_value hT ⟨fun q => ⟨_, _, rfl, rfl, ?_⟩, fun q => ⟨_, _, rfl, rfl, ?_⟩, fun q => ⟨_, _, rfl, rfl, ?_⟩, fun q => ?_, fun q => ?_, fun q => ⟨_, _, rfl, rfl, ?_⟩, fun q => ?_, fun q => ?_, fun q => ?_, fun q => ?_, fun q => ?_, fun q => ⟨_, _, rfl, rfl, ?_⟩, fun q => ⟨_, _, rfl, rfl, ?_⟩, fun q => ⟨_, _, rfl, rfl, ?_⟩⟩)
  · rw [show w 1 9 = A 0 0 from hp.1.1]
    subst q; exact k0
  · rw [show w 1 10 = A 1 0 from hp.1.2.1]
    subst q; exact k0
  · rw [show w 1 11 = A 2 0 from hp.1.2.2.1]
    subst q; exact k0
  · subst q
    exact c_countOn hT hA.1 hp.1 ⟨_, _, rfl, rfl, k0⟩
  · subst q
    exact c_countPinned hT.2.1 hA.1 hp.1 ⟨_, _, rfl, rfl, k0⟩
  · rw [show w 12 5 = ((z_Sx A (-1)).length : Int) from hn.2.1]
    subst q; exact k0
  · subst q
    exact c_countTight hT hA.1 hA.2.1 hp.1 hnb ⟨_, _, rfl, rfl, k0⟩
  · subst q
    exact c_countNeeded hT hA.1 hA.2.1 hp.1 hnb (fun w' f => ⟨_, _, rfl, rfl, k w' (hs.fr f) (fun a ha => f a (by omega))⟩)
  · subst q
    exact c_countSettled hT hA.1 hA.2.1 hnb ⟨_, _, rfl, rfl, k0⟩
  · subst q
    exact c_ge hT hA.1 hA.2.1 hn ⟨_, _, rfl, rfl, k0⟩
  · subst q
    exact c_room hT hA.1 hA.2.1 hnb ⟨_, _, rfl, rfl, k0⟩
  · rw [show w 10 2 = A 10 0 from hp.2.2.1.2.1]
    subst q; exact k0
  · rw [show w 24 2 = (H.length : Int) from hh.2.1]
    subst q; exact k0
  · unfold z_qv at k0
    rw [if_neg (by omega), if_neg (by omega), if_neg (by omega), if_neg (by omega), if_neg (by omega), if_neg (by omega), if_neg (by omega), if_neg (by omega), if_neg (by omega), if_neg (by omega), if_neg (by omega), if_neg (by omega), if_neg (by omega)] at k0
    exact k0
