/-! NEEDS -/
def z_nof (A : z_A) (e g : Int) : Prop := (A 3 g = e ∨ A 4 g = e) ∧ z_need A g
noncomputable def z_qn (A : z_A) (e : Int) : Int := if 0 ≤ e ∧ e < A 1 0 then z_ct (z_nof A e) (A 2 0).toNat else -1
theorem c_needs {sh : List z_C} {w : z_Mm} {A : z_A} {H : List z_A} {e : Int} {K : Int → z_Mm → Prop} (hT : z_isTG sh 0) (hs : z_cs w A H) (k : ∀ w', z_cs w' A H → z_frC w w' → K (z_qn A e) w') : z_CI mX8_needs [z_r 0, z_i e] sh w K := by
  obtain ⟨hA, hp, hn, -, -⟩ := id hs
  have r2 := hA.1.2.2.1
  have p10 : w 1 10 = A 1 0 := hp.1.2.1
  have hnb := hn.nb hA.1 hA.2.1
  have h1 := z_fev (w := w) (e := e)
  rw [p10] at h1
  unfold z_qn at k
  refine z_CIi (t_X8_needs hT ⟨fun c => ?_, fun c => ?_⟩)
  · rw [if_neg (h1.mp c)] at k
    exact ⟨_, _, rfl, rfl, k w hs z_frC.rf⟩
  · rw [if_pos (Classical.byContradiction fun q => c (h1.mpr q))] at k
    refine z_for (n := A 2 0) (i0 := 0) (fun i v => z_Sem mX8_needs (sh.length, 0) 14 [(0, z_r 0), (1, z_i e), (2, z_i (z_ct (z_nof A e) i.toNat)), (3, z_i i)] [] (sh, v) _) (fun i v => ∀ a : Nat, (a < 18 ∨ 23 < a) → v a = w a) (by omega) (fun _ _ => rfl) ?_ ?_
    · rintro v vf
      have p11 : v 1 11 = A 2 0 := by rw [vf 1 (by omega)]; exact hp.1.2.2.1
      exact t_X8_needs_14 hT ⟨fun _ => ⟨_, _, rfl, rfl, k v (hs.fr vf) (fun a ha => vf a (by omega))⟩, fun c => absurd c (by omega)⟩
    · rintro i v i0 i1 vf kk
      have p11 : v 1 11 = A 2 0 := by rw [vf 1 (by omega)]; exact hp.1.2.2.1
      have hpv : z_pg v 1 A := hp.1.fr (fun a a0 a1 => vf a (by omega))
      obtain ⟨v4, v5, -, -, -⟩ := hpv.2.2.2.1 i i0 i1
      have rc := z_ct_R (p := z_nof A e) i.toNat
      have eh : f_X3_hasEvent v 1 i e = 0 ↔ ¬ (A 3 i = e ∨ A 4 i = e) := by
        unfold f_X3_hasEvent
        rw [v4, v5]
        by_cases q1 : A 3 i = e
        · simp [q1]
        · by_cases q2 : A 4 i = e
          · simp [q1, q2]
          · simp [q1, q2]
      refine t_X8_needs_14 hT ⟨fun c => absurd c (by omega), fun _ => ⟨⟨⟨i0, by omega⟩, fun _ => ⟨⟨i0, by omega⟩, True.intro⟩, True.intro⟩, fun c2 => ?_, fun c2 => ?_⟩⟩
      · refine ⟨⟨by rw [z_asn (by decide)]; omega, by rw [z_asn (by decide)]; omega⟩, fun y5 e5 => ⟨⟨by omega, by omega⟩, ?_⟩⟩
        rw [z_asn (by decide)] at e5
        rw [z_ct_y (p := z_nof A e) i0 (Or.inr ⟨rfl, fun q => (eh.mp c2) q.1⟩) e5]
        exact kk v vf
      · have hq : A 3 i = e ∨ A 4 i = e := Classical.byContradiction fun q => c2 (eh.mpr q)
        refine c_isNeeded hT hA.1 hA.2.1 hpv (hnb.fr (vf 12 (by omega)) (vf 17 (by omega))) i0 i1 (fun q w2 f2 => ?_) (fun q w2 f2 => ?_)
        · rw [if_neg (by decide)]
          refine ⟨⟨by rw [z_asn (by decide)]; omega, by rw [z_asn (by decide)]; omega⟩, fun y5 e5 => ⟨⟨by omega, by omega⟩, ?_⟩⟩
          rw [z_asn (by decide)] at e5
          rw [z_ct_y (p := z_nof A e) i0 (Or.inl ⟨rfl, hq, q⟩) e5]
          exact kk w2 (fun a ha => by rw [f2 a ha, vf a ha])
        · rw [if_pos rfl]
          refine ⟨⟨by rw [z_asn (by decide)]; omega, by rw [z_asn (by decide)]; omega⟩, fun y5 e5 => ⟨⟨by omega, by omega⟩, ?_⟩⟩
          rw [z_asn (by decide)] at e5
          rw [z_ct_y (p := z_nof A e) i0 (Or.inr ⟨rfl, fun c => q c.2⟩) e5]
          exact kk w2 (fun a ha => by rw [f2 a ha, vf a ha])
