/-! SLOWEST -/
theorem m_geB {sh : List z_C} {w : z_Mm} {A : z_A} {K : Int → z_Mm → Prop} (hM : z_isMod sh 161) (hA : z_okg A) (hb : z_bears A) (e1 : w 163 1 = A 1 0) (hl : z_ld w A) (k : K (z_ge A (A 1 0).toNat) w) : z_CI mX9_greatestEarliest [z_r 161] sh w K := by
  have r1 := hA.2.1
  refine z_CIi (t_X9_greatestEarliest hM ?_)
  refine z_for (n := A 1 0) (i0 := 0) (fun i v => z_Sem mX9_greatestEarliest (sh.length, 0) 4 [(0, z_r 161), (1, z_i (z_ge A i.toNat)), (2, z_i i)] [] (sh, v) _) (fun i v => v = w) (by omega) rfl ?_ ?_
  · rintro v rfl
    exact t_X9_greatestEarliest_4 hM ⟨fun _ => ⟨_, _, rfl, rfl, k⟩, fun c => absurd c (by omega)⟩
  · rintro i v i0 i1 rfl kk
    have kk' := kk v rfl
    obtain ⟨m1, m2, m3, m4⟩ := z_mea hl hA hb (e := i) ⟨i0, i1⟩
    refine t_X9_greatestEarliest_4 hM ⟨fun c => absurd c (by omega), fun _ => ?_⟩
    rw [m1]
    refine ⟨m3, fun _ => ⟨m3, True.intro⟩, fun y9 e9 => ⟨⟨by omega, by omega⟩, ?_⟩⟩
    have ek : z_ge A (i + 1).toNat = max (z_ge A i.toNat) (- z_dd A (-1) i 0) := by
      rw [show (i + 1).toNat = i.toNat + 1 by omega, z_ge, show ((i.toNat : Nat) : Int) = i by omega]
    rw [ek] at kk'
    rw [show y9 = max (z_ge A i.toNat) (- z_dd A (-1) i 0) by rw [e9]; split <;> omega]
    exact kk'
/-- the greatest earliest time with a gap off -/
noncomputable def z_gf (A : z_A) (g : Int) : Int := z_ge (z_up A 7 g 0) (A 1 0).toNat
noncomputable def z_slw (A : z_A) : Nat → Int × Int
  | 0 => (-2, 0)
  | k + 1 => if A 7 (k : Int) = 0 then z_slw A k else if (z_slw A k).1 = -2 then ((k : Int), z_gf A (k : Int)) else if (z_slw A k).2 ≤ z_gf A (k : Int) then z_slw A k else ((k : Int), z_gf A (k : Int))
theorem z_slw_s {A : z_A} {i : Int} (i0 : 0 ≤ i) : z_slw A (i + 1).toNat = if A 7 i = 0 then z_slw A i.toNat else if (z_slw A i.toNat).1 = -2 then (i, z_gf A i) else if (z_slw A i.toNat).2 ≤ z_gf A i then z_slw A i.toNat else (i, z_gf A i) := by
  rw [show (i + 1).toNat = i.toNat + 1 by omega, z_slw, show ((i.toNat : Nat) : Int) = i by omega]
theorem z_slw_R {A : z_A} : ∀ k : Nat, (z_slw A k).1 = -2 ∨ 0 ≤ (z_slw A k).1
  | 0 => Or.inl rfl
  | k + 1 => by
    have := z_slw_R (A := A) k
    rw [z_slw]
    split
    · exact this
    · split
      · exact Or.inr (by show 0 ≤ (k : Int); omega)
      · split
        · exact this
        · exact Or.inr (by show 0 ≤ (k : Int); omega)
theorem c_slowest {sh : List z_C} {w : z_Mm} {A : z_A} {H : List z_A} {K : Int → z_Mm → Prop} (hT : z_isTG sh 0) (hs : z_cs w A H) (k : ∀ w', (∀ a : Nat, (a < 18 ∨ 23 < a) → w' a = w a) → K (z_slw A (A 2 0).toNat).1 w') : z_CI mX8_slowest [z_r 0] sh w K := by
  obtain ⟨hA, hp, hn, -, -⟩ := hs
  have r1 := hA.1.2.1
  have r2 := hA.1.2.2.1
  have hnb := hn.nb hA.1 hA.2.1
  have hN : z_isNet sh 18 := hT.2.2.2.1
  refine z_CIi (t_X8_slowest hT ?_)
  refine z_for (n := A 2 0) (i0 := 0) (fun i v => z_Sem mX8_slowest (sh.length, 0) 7 [(0, z_r 0), (1, z_i (z_slw A i.toNat).1), (2, z_i (z_slw A i.toNat).2), (3, z_i i)] [] (sh, v) _)
    (fun i v => ∀ a : Nat, (a < 18 ∨ 23 < a) → v a = w a) (by omega) (fun _ _ => rfl) ?_ ?_
  · intro v vf
    have p11 : v 1 11 = A 2 0 := by rw [vf 1 (by omega)]; exact hp.1.2.2.1
    exact t_X8_slowest_7 hT ⟨fun _ => ⟨_, _, rfl, rfl, k v vf⟩, fun c => absurd c (by omega)⟩
  · intro i v i0 i1 vf kk
    have p11 : v 1 11 = A 2 0 := by rw [vf 1 (by omega)]; exact hp.1.2.2.1
    have p9 : v 9 i = A 7 i := by rw [vf 9 (by omega)]; exact (hp.1.2.2.2.1 i i0 i1).2.2.2.2
    have hpv : z_pg v 1 A := hp.1.fr (fun a a0 a1 => vf a (by omega))
    have hnv : z_nb v A := hnb.fr (vf 12 (by omega)) (vf 17 (by omega))
    have es := z_slw_s (A := A) i0
    refine t_X8_slowest_7 hT ⟨fun c => absurd c (by omega), fun _ => ⟨⟨by omega, by omega⟩, fun c3 => ⟨⟨by omega, by omega⟩, ?_⟩, fun c3 => ?_⟩⟩
    · have kk' := kk v vf
      rw [es, if_pos (by omega)] at kk'
      exact kk'
    · rw [if_neg (by omega)] at es
      obtain ⟨hB, hbB, hFB⟩ := z_off_F hA.1 hA.2.1 i0 i1
      have b10 : z_up A 7 i 0 1 0 = A 1 0 := z_up_ne (Or.inl (by decide))
      have h0 : z_bl (A 1 0) 0 := ⟨by omega, by omega⟩
      refine c_try hT hA.1 hA.2.1 hpv hnv i0 i1 (fun w5 S hS hd hF hf => ?_)
      have fr : ∀ a : Nat, (a < 18 ∨ 23 < a) → w5 a = w a := fun a ha => (hf a ha).trans (vf a ha)
      refine c_greatest hN hS hd (fun x hx h1 h2 => ?_)
      have ed : ∀ e : Int, z_bl (A 1 0) e → z_Dd S (A 1 0) e 0 = z_dd (z_up A 7 i 0) (-1) e 0 := fun e he => z_dd_F hB hbB b10 hS (fun x => by rw [hF, hFB]) he h0
      have ex : z_gf A i = x := by
        refine (z_ge_u (A := z_up A 7 i 0) (n := A 1 0) (by omega) hx.1 (fun e e0 e1 => by rw [← ed e ⟨e0, e1⟩]; exact h1 e e0 e1) ?_).symm
        rcases h2 with h2 | ⟨e, e0, e1, e2⟩
        · exact Or.inl h2
        · exact Or.inr ⟨e, e0, e1, by rw [← ed e ⟨e0, e1⟩]; exact e2⟩
      rw [← ex]
      have kk' := kk w5 fr
      rw [es] at kk'
      refine ⟨⟨by omega, by omega⟩, ?_⟩
      generalize z_slw A i.toNat = s at kk' ⊢
      by_cases c4 : s.1 = -2
      · rw [if_pos c4] at kk'
        rw [if_pos c4, if_pos c4]
        exact kk'
      · rw [if_neg c4] at kk'
        rw [if_neg c4, if_neg c4]
        by_cases c5 : s.2 ≤ z_gf A i
        · rw [if_pos c5] at kk'
          rw [if_pos c5, if_pos c5]
          exact kk'
        · rw [if_neg c5] at kk'
          rw [if_neg c5, if_neg c5]
          exact kk'
theorem m_slowest {sh : List z_C} {w : z_Mm} {A : z_A} {H : List z_A} {K : Int → z_Mm → Prop} (hM : z_isMod sh 161) (hs : z_ms w A H) (hA : z_okg A) (hb : z_bears A)
    (k : ∀ w', z_ms w' A H → z_frX w w' → K (z_slw A (A 2 0).toNat).1 w') : z_CI mX9_slowest [z_r 161] sh w K := by
  have r1 := hA.2.1
  have r2 := hA.2.2.1
  refine z_CIi (t_X9_slowest hM ?_)
  refine z_for (n := A 2 0) (i0 := 0) (fun i v => z_Sem mX9_slowest (sh.length, 0) 7 [(0, z_r 161), (1, z_i (z_slw A i.toNat).1), (2, z_i (z_slw A i.toNat).2), (3, z_i i)] [] (sh, v) _)
    (fun i v => z_ms v A H ∧ z_frX w v) (by omega) ⟨hs, z_frX.rf⟩ ?_ ?_
  · rintro v ⟨vs, vf⟩
    have p2 : v 163 2 = A 2 0 := vs.1.1.2.2.1
    exact t_X9_slowest_7 hM ⟨fun _ => ⟨_, _, rfl, rfl, k v vs vf⟩, fun c => absurd c (by omega)⟩
  · rintro i v i0 i1 ⟨vs, vf⟩ kk
    have p2 : v 163 2 = A 2 0 := vs.1.1.2.2.1
    have e7 := z_fon hA vs.1.1 i0 i1
    have es := z_slw_s (A := A) i0
    refine t_X9_slowest_7 hM ⟨fun c => absurd c (by omega), fun _ => ⟨z_son hA i0 i1, fun c3 => ⟨⟨by omega, by omega⟩, ?_⟩, fun c3 => ?_⟩⟩
    · rw [e7] at c3
      have kk' := kk v ⟨vs, vf⟩
      rw [es, if_pos c3] at kk'
      exact kk'
    · rw [e7] at c3
      rw [if_neg c3] at es
      have h7 : A 7 i = 1 := by
        have := (hA.2.2.2.1 i i0 i1).2.2.2.2.2
        omega
      obtain ⟨hB, hbB, hF⟩ := z_off_F hA hb i0 i1
      have b10 : z_up A 7 i 0 1 0 = A 1 0 := z_up_ne (Or.inl (by decide))
      refine m_puts hM ⟨i0, by omega⟩ (by omega) ?_
      have hm5 := z_mr_on (n := 0) vs.1 hA i0 (by omega)
      refine m_laysB hM hB hbB hm5.1 (fun w8 l8 g8 f8 => ?_)
      have hm8 : z_mr (w8 163) (z_up A 7 i 0) := hm5.I (f8.1 163 (by omega) (by omega))
      refine m_puts hM ⟨i0, by omega⟩ (by omega) ?_
      have hm9 := z_mr_on (n := 1) hm8 hB i0 (by omega)
      rw [z_upup h7] at hm9
      have f9 : ∀ c : Nat, c ≠ 163 → z_W w8 163 (13 + 5 * i + 4) 1 c = w8 c := fun c hc => z_Wf hc
      have s9 : z_ms (z_W w8 163 (13 + 5 * i + 4) 1) A H := ⟨hm9, vs.2.fr (by rw [f9 161 (by omega), f8.2 8 (by omega), z_Wf (by omega)]) (by rw [f9 165 (by omega), f8.1 165 (by omega) (by omega), z_Wf (by omega)])⟩
      have fX9 : z_frX w (z_W w8 163 (13 + 5 * i + 4) 1) := vf.trans ((z_frM.c (b := 163) (by omega) (fun c hc => z_Wf hc)).trans (f8.M.X.trans (z_frM.c (b := 163) (by omega) f9)))
      have l9 : z_ld (z_W w8 163 (13 + 5 * i + 4) 1) (z_up A 7 i 0) := l8.fr (by rw [f9 161 (by omega)]) (fun c c0 c1 => f9 c (by omega))
      have e1 : z_W w8 163 (13 + 5 * i + 4) 1 163 1 = z_up A 7 i 0 1 0 := by rw [b10]; exact hm9.1.2.1
      have kk' := kk _ ⟨s9, fX9⟩
      rw [es] at kk'
      have eg : z_ge (z_up A 7 i 0) (z_up A 7 i 0 1 0).toNat = z_gf A i := by rw [b10]; rfl
      have rs := z_slw_R (A := A) i.toNat
      generalize z_slw A i.toNat = s at kk' rs ⊢
      refine ⟨fun c4 => ?_, fun c4 => ?_⟩
      · rw [if_pos (by omega)] at kk'
        refine m_geB hM hB hbB e1 l9 ?_
        rw [eg]
        exact ⟨⟨by omega, by omega⟩, kk'⟩
      · rw [if_neg (by omega)] at kk'
        refine m_geB hM hB hbB e1 l9 ?_
        rw [eg]
        refine ⟨fun c5 => ?_, fun c5 => ?_⟩
        · rw [if_pos c5] at kk'
          exact ⟨⟨by omega, by omega⟩, kk'⟩
        · rw [if_neg c5] at kk'
          refine m_geB hM hB hbB e1 l9 ?_
          rw [eg]
          exact ⟨⟨by omega, by omega⟩, kk'⟩
