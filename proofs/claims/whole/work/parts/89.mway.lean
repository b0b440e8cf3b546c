/-! WAY and WAYLENGTH, the reference -/
/-- the least sums of k steps first, p the row before, g the row -/
def z_rw (S : z_E) (p g : Int → Int) (k : Int) : Prop := ∀ e : Int, 0 ≤ e → e < 10 →
  (g e = 1000000 ∨ ∃ (j : Nat) (q : Int × Int × Int × Int), (j : Int) < k ∧ S[j]? = some q ∧ q.1 = e ∧ p q.2.1 < 1000000 ∧ g e = p q.2.1 + q.2.2.1) ∧
  ∀ (j : Nat) (q : Int × Int × Int × Int), (j : Int) < k → S[j]? = some q → q.1 = e → p q.2.1 < 1000000 → g e ≤ p q.2.1 + q.2.2.1
def z_rws (S : z_E) (f : Int → Int) (b M : Int) : Prop := (∀ e : Int, 0 ≤ e → e < 10 → f e = if e = b then 0 else 1000000) ∧
  ∀ m : Int, 0 ≤ m → m < M → z_rw S (fun e => f (10 * m + e)) (fun e => f (10 * (m + 1) + e)) (S.length : Int)
theorem z_rw_cg {S : z_E} {p p' g g' : Int → Int} {k : Int} (hw : z_wf S 10) (h : z_rw S p g k) (hp : ∀ e : Int, 0 ≤ e → e < 10 → p' e = p e) (hg : ∀ e : Int, 0 ≤ e → e < 10 → g' e = g e) : z_rw S p' g' k := by
  intro e e0 e1
  obtain ⟨h1, h2⟩ := h e e0 e1
  rw [hg e e0 e1]
  refine ⟨?_, fun j q j1 j2 j3 j4 => ?_⟩
  · rcases h1 with h1 | ⟨j, q, j1, j2, j3, j4, j5⟩
    · exact Or.inl h1
    · have hq := (hw q (List.mem_of_getElem? j2)).2
      exact Or.inr ⟨j, q, j1, j2, j3, by rw [hp _ hq.1 hq.2]; exact j4, by rw [hp _ hq.1 hq.2]; exact j5⟩
  · have hq := (hw q (List.mem_of_getElem? j2)).2
    rw [hp _ hq.1 hq.2] at j4 ⊢
    exact h2 j q j1 j2 j3 j4
theorem z_rws_R {S : z_E} {f : Int → Int} {b M : Int} (hw : z_wf S 10) (hR : ∀ q ∈ S, -999 ≤ q.2.2.1 ∧ q.2.2.1 ≤ 999) (h : z_rws S f b M) : ∀ m : Nat, (m : Int) ≤ M → ∀ e : Int, 0 ≤ e → e < 10 → f (10 * (m : Int) + e) = 1000000 ∨ (-999 * (m : Int) ≤ f (10 * (m : Int) + e) ∧ f (10 * (m : Int) + e) ≤ 999 * (m : Int))
  | 0, _, e, e0, e1 => by
    have := h.1 e e0 e1
    rw [show 10 * ((0 : Nat) : Int) + e = e by omega, this]
    split
    · exact Or.inr ⟨by omega, by omega⟩
    · exact Or.inl rfl
  | m + 1, hm, e, e0, e1 => by
    have ih := z_rws_R hw hR h m (by omega)
    rw [show ((m + 1 : Nat) : Int) = (m : Int) + 1 by omega]
    rcases (h.2 (m : Int) (by omega) (by omega) e e0 e1).1 with h1 | ⟨j, q, j1, j2, j3, j4, j5⟩
    · exact Or.inl h1
    · have hq := List.mem_of_getElem? j2
      have rq := hR q hq
      have := ih q.2.1 (hw q hq).2.1 (hw q hq).2.2
      simp only at j4 j5
      refine Or.inr ⟨?_, ?_⟩ <;> omega
theorem z_wf10 {A : z_A} (hA : z_okg A) : z_wf (z_Sx A (-1)) 10 := fun q hq => by
  have := z_Sx_wf hA (-1) q hq
  exact ⟨z_bl10 hA this.1, z_bl10 hA this.2⟩
theorem z_rws_lo {A : z_A} {f : Int → Int} {b M : Int} (hA : z_okg A) (hb : z_bears A) (hb' : z_bl (A 1 0) b) (h : z_rws (z_Sx A (-1)) f b M) : ∀ m : Nat, (m : Int) ≤ M → ∀ e : Int, z_bl (A 1 0) e → f (10 * (m : Int) + e) < 1000000 → z_dd A (-1) e b ≤ f (10 * (m : Int) + e) ∧ z_WW A e b ≤ 64 * f (10 * (m : Int) + e) + m
  | 0, _, e, he, hf => by
    have h10 := z_bl10 hA he
    have h0 := h.1 e h10.1 h10.2
    rw [show 10 * ((0 : Nat) : Int) + e = e by omega] at hf ⊢
    have eb : e = b := Classical.byContradiction fun c => by rw [if_neg c] at h0; omega
    rw [if_pos eb] at h0
    have h1 := z_D0 (z_WW_is hA hb) hb'
    have h2 := z_D0 (z_isd hA hb (-1)) hb'
    rw [← eb] at h1 h2
    rw [← eb, h1, h2, h0]
    exact ⟨by omega, by omega⟩
  | m + 1, hm, e, he, hf => by
    have h10 := z_bl10 hA he
    rw [show ((m + 1 : Nat) : Int) = (m : Int) + 1 by omega] at hf ⊢
    rcases (h.2 (m : Int) (by omega) (by omega) e h10.1 h10.2).1 with h1 | ⟨j, q, j1, j2, j3, j4, j5⟩
    · simp only at h1
      omega
    · have hq := List.mem_of_getElem? j2
      have hw := (z_sv_A hA hb (-1)).2.1
      obtain ⟨w1, w2⟩ := hw q hq
      have ih := z_rws_lo hA hb hb' h m (by omega) q.2.1 w2 j4
      have s1 := z_Dst (z_isd hA hb (-1)) hw hq
      have t1 := z_Dtri (z_isd hA hb (-1)) w1 hb' w2
      have s2 := z_Dst (z_WW_is hA hb) (z_sc_wf hw) (q := (q.1, q.2.1, 64 * q.2.2.1 + 1, q.2.2.2)) (List.mem_map.mpr ⟨q, hq, rfl⟩)
      have t2 := z_Dtri (z_WW_is hA hb) w1 hb' w2
      simp only at s2 j5
      rw [j3] at s1 t1 s2 t2
      exact ⟨by omega, by omega⟩
theorem z_rws_hi {A : z_A} {f : Int → Int} {b M : Int} (hA : z_okg A) (hb : z_bears A) (hb' : z_bl (A 1 0) b) (h : z_rws (z_Sx A (-1)) f b M) : ∀ m : Nat, (m : Int) ≤ M → ∀ e : Int, z_bl (A 1 0) e → z_cn A e b = m → f (10 * (m : Int) + e) = z_dd A (-1) e b
  | 0, _, e, he, hc => by
    have h10 := z_bl10 hA he
    have eb := (z_cn_0 hA hb he hb').mp hc
    have h0 := h.1 e h10.1 h10.2
    rw [if_pos eb] at h0
    rw [show 10 * ((0 : Nat) : Int) + e = e by omega, h0, ← eb, z_D0 (z_isd hA hb (-1)) he]
  | m + 1, hm, e, he, hc => by
    have h10 := z_bl10 hA he
    rw [show ((m + 1 : Nat) : Int) = (m : Int) + 1 by omega] at hc ⊢
    have hne : e ≠ b := fun c => by
      have := (z_cn_0 hA hb he hb').mpr c
      omega
    obtain ⟨⟨x0, x1, -⟩, x2, x3, x4, x5, x6, x7⟩ := z_nx_ok hA hb he hb' hne
    have ih := z_rws_hi hA hb hb' h m (by omega) _ x5 (by omega)
    have rd := z_dd_R (lo := -1) hA hb x5 hb'
    have up := (h.2 (m : Int) (by omega) (by omega) e h10.1 h10.2).2 _ _ (by omega) x2 x3 (by show f (10 * (m : Int) + (z_nxt A b e).2.1) < 1000000; omega)
    simp only at up
    have rd2 := z_dd_R (lo := -1) hA hb he hb'
    have lo := z_rws_lo hA hb hb' h (m + 1) (by omega) e he
    rw [show ((m + 1 : Nat) : Int) = (m : Int) + 1 by omega] at lo
    have := lo (by omega)
    omega
/-- the reference's and the class's first steps -/
theorem z_rws_iff {A : z_A} {f : Int → Int} {b M m : Int} (hA : z_okg A) (hb : z_bears A) (hb' : z_bl (A 1 0) b) (h : z_rws (z_Sx A (-1)) f b M) (m0 : 0 ≤ m) (m1 : m ≤ M) {e : Int} (he : z_bl (A 1 0) e) (hc : z_cn A e b = m + 1)
    {q : Int × Int × Int × Int} (hq : q ∈ z_Sx A (-1)) (hq1 : q.1 = e) : q.2.2.1 + f (10 * m + q.2.1) = z_dd A (-1) e b ↔ 64 * q.2.2.1 + 1 + z_WW A q.2.1 b = z_WW A e b := by
  have hw := (z_sv_A hA hb (-1)).2.1
  obtain ⟨w1, w2⟩ := hw q hq
  have em : ((m.toNat : Nat) : Int) = m := by omega
  have lo := z_rws_lo hA hb hb' h m.toNat (by omega) q.2.1 w2
  have hi := z_rws_hi hA hb hb' h m.toNat (by omega) q.2.1 w2
  rw [em] at lo hi
  have rq := z_Sx_R hA hq
  have rd := z_dd_R (lo := -1) hA hb he hb'
  have rd2 := z_dd_R (lo := -1) hA hb w2 hb'
  have s1 := z_Dst (z_isd hA hb (-1)) hw hq
  have t1 := z_Dtri (z_isd hA hb (-1)) w1 hb' w2
  have s2 := z_Dst (z_WW_is hA hb) (z_sc_wf hw) (q := (q.1, q.2.1, 64 * q.2.2.1 + 1, q.2.2.2)) (List.mem_map.mpr ⟨q, hq, rfl⟩)
  have t2 := z_Dtri (z_WW_is hA hb) w1 hb' w2
  simp only at s2
  rw [hq1] at s1 t1 s2 t2
  have c1 := z_cn_R hA hb he hb'
  have c2 := z_cn_R hA hb w2 hb'
  have r1 := hA.2.1
  constructor
  · intro g
    have := lo (by omega)
    unfold z_cn at hc
    omega
  · intro g
    have hc2 : z_cn A q.2.1 b = m := by
      unfold z_cn at hc c1 c2 ⊢
      omega
    have := hi hc2
    unfold z_cn at hc c1 c2 hc2
    omega
theorem m_laysSums {sh : List z_C} {w : z_Mm} {A : z_A} {m : Int} {K : z_Mm → Prop} (hM : z_isMod sh 161) (hA : z_okg A) (hl : z_ld w A) (m0 : 0 ≤ m) (m1 : m ≤ 9) (hp : ∀ e : Int, 0 ≤ e → e < 10 → w 173 (10 * m + e) = 1000000 ∨ (-99999 ≤ w 173 (10 * m + e) ∧ w 173 (10 * m + e) ≤ 99999))
    (k : ∀ w', (∀ c : Nat, c ≠ 173 → w' c = w c) → (∀ j : Int, j < 10 * (m + 1) → w' 173 j = w 173 j) → z_rw (z_Sx A (-1)) (fun e => w 173 (10 * m + e)) (fun e => w' 173 (10 * (m + 1) + e)) ((z_Sx A (-1)).length : Int) → K w') : z_CV mX9_laysSums [z_r 161, z_i (m + 1)] sh w K := by
  have hlen := z_Sx_len hA (-1)
  refine z_CVi (t_X9_laysSums hM ?_)
  refine z_for (n := 10) (i0 := 0) (fun i v => z_Sem mX9_laysSums (sh.length, 0) 2 [(0, z_r 161), (1, z_i (m + 1)), (2, z_i i)] [] (sh, v) _)
    (fun i v => (∀ c : Nat, c ≠ 173 → v c = w c) ∧ (∀ j : Int, j < 10 * (m + 1) → v 173 j = w 173 j) ∧ ∀ e : Int, 0 ≤ e → e < i → v 173 (10 * (m + 1) + e) = 1000000) (by omega) ⟨fun _ _ => rfl, fun _ _ => rfl, fun e e0 e1 => absurd e1 (by omega)⟩ ?_ ?_
  · rintro v ⟨vf, vp, vg⟩
    refine t_X9_laysSums_2 hM ⟨fun _ => ?_, fun c => absurd (Int.le_refl _) c⟩
    refine z_for (n := ((z_Sx A (-1)).length : Int)) (i0 := 0) (fun i u => z_Sem mX9_laysSums (sh.length, 0) 29 [(0, z_r 161), (1, z_i (m + 1)), (2, z_i i)] [] (sh, u) _)
      (fun i u => (∀ c : Nat, c ≠ 173 → u c = w c) ∧ (∀ j : Int, j < 10 * (m + 1) → u 173 j = w 173 j) ∧ z_rw (z_Sx A (-1)) (fun e => w 173 (10 * m + e)) (fun e => u 173 (10 * (m + 1) + e)) i) (by omega)
      ⟨vf, vp, fun e e0 e1 => ⟨Or.inl (vg e e0 e1), fun j q j1 => absurd j1 (by omega)⟩⟩ ?_ ?_
    · rintro u ⟨uf, up, ug⟩
      have h13 : u 161 13 = ((z_Sx A (-1)).length : Int) := by rw [uf 161 (by omega)]; exact hl.1
      exact t_X9_laysSums_29 hM ⟨fun _ => ⟨u, rfl, rfl, k u uf up ug⟩, fun c => absurd (Int.le_of_eq h13) c⟩
    · rintro i u i0 i1 ⟨uf, up, ug⟩ kk
      have h13 : u 161 13 = ((z_Sx A (-1)).length : Int) := by rw [uf 161 (by omega)]; exact hl.1
      have hk : (z_Sx A (-1))[i.toNat]? = some ((z_Sx A (-1))[i.toNat]'(by omega)) := List.getElem?_eq_getElem (by omega)
      generalize (z_Sx A (-1))[i.toNat]'(by omega) = q at hk
      have hq := List.mem_of_getElem? hk
      obtain ⟨⟨w10, w11⟩, ⟨w20, w21⟩⟩ := z_wf10 hA q hq
      have rq := z_Sx_R hA hq
      obtain ⟨m1', m2', m3', -⟩ := hl.2.1 _ q hk
      rw [show ((i.toNat : Nat) : Int) = i by omega] at m1' m2' m3'
      have e1 : u 168 i = q.1 := by rw [uf 168 (by omega)]; exact m1'
      have e2 : u 169 i = q.2.1 := by rw [uf 169 (by omega)]; exact m2'
      have e3 : u 170 i = q.2.2.1 := by rw [uf 170 (by omega)]; exact m3'
      have ep : u 173 (10 * (m + 1 - 1) + q.2.1) = w 173 (10 * m + q.2.1) := by rw [show 10 * (m + 1 - 1) + q.2.1 = 10 * m + q.2.1 by omega]; exact up _ (by omega)
      have rp := hp q.2.1 w20 w21
      refine t_X9_laysSums_29 hM ⟨fun c => absurd c (by omega), fun _ => ?_⟩
      rw [e1, e2, e3, ep]
      refine ⟨⟨by omega, by omega⟩, ⟨by omega, by omega⟩, ⟨by omega, by omega⟩, ⟨by omega, by omega⟩, ⟨by omega, by omega⟩, fun y7 e7 => ⟨⟨by omega, by omega⟩, ⟨by omega, by omega⟩, ⟨by omega, by omega⟩, fun y11 e11 => ⟨fun _ => ⟨⟨by omega, by omega⟩, ⟨by omega, by omega⟩, ⟨by omega, by omega⟩, True.intro⟩, fun y24 e24 => ⟨fun _ => ⟨⟨by omega, by omega⟩, True.intro⟩, fun hy => ?_, ⟨by omega, by omega⟩, fun w34 e34 => ⟨⟨by omega, by omega⟩, kk w34 ?_⟩⟩⟩⟩⟩
      · have : ¬ 1000000 ≤ y7 := fun c => hy (by rw [e24, if_pos c])
        exact ⟨⟨by omega, by omega⟩, ⟨by omega, by omega⟩, True.intro⟩
      · have g1 : w34 173 (10 * (m + 1) + q.1) = if y24 = 0 then u 173 (10 * (m + 1) + q.1) else w 173 (10 * m + q.2.1) + q.2.2.1 := by rw [e34, e11, z_W_same, e7]
        have g2 : ∀ j : Int, j ≠ 10 * (m + 1) + q.1 → w34 173 j = u 173 j := fun j hj => by rw [e34, z_W_ne (Or.inr (by rw [e11]; exact hj))]
        refine ⟨fun c hc => by rw [e34, z_Wf hc, uf c hc], fun j hj => by rw [g2 j (by omega)]; exact up j hj, fun e e0 e1' => ?_⟩
        obtain ⟨u1, u2⟩ := ug e e0 e1'
        simp only at u1 u2
        by_cases ce : e = q.1
        · show (w34 173 (10 * (m + 1) + e) = 1000000 ∨ _) ∧ _
          rw [ce] at u1 u2
          by_cases c0 : y24 = 0
          · rw [if_pos c0] at g1
            have hno : 1000000 ≤ w 173 (10 * m + q.2.1) ∨ u 173 (10 * (m + 1) + q.1) ≤ w 173 (10 * m + q.2.1) + q.2.2.1 := by
              rw [e24] at c0
              by_cases d1 : 1000000 ≤ y7
              · exact Or.inl (by omega)
              · rw [if_neg d1] at c0
                by_cases d2 : u 173 y11 ≤ y7 + q.2.2.1
                · rw [e11] at d2
                  exact Or.inr (by omega)
                · rw [if_neg d2] at c0
                  omega
            refine ⟨?_, fun j r j1 j2 j3 j4 => ?_⟩
            · rw [ce, g1]
              rcases u1 with u1 | ⟨j, r, j1, j2, j3, j4, j5⟩
              · exact Or.inl u1
              · exact Or.inr ⟨j, r, by omega, j2, j3, j4, by show w34 173 (10 * (m + 1) + q.1) = _; rw [g1]; exact j5⟩
            · show w34 173 (10 * (m + 1) + e) ≤ _
              rw [ce, g1]
              simp only at j4 ⊢
              by_cases cj : j = i.toNat
              · rw [cj, hk] at j2
                cases j2
                omega
              · exact u2 j r (by omega) j2 (j3.trans ce) j4
          · rw [if_neg c0] at g1
            have hyes : w 173 (10 * m + q.2.1) < 1000000 ∧ w 173 (10 * m + q.2.1) + q.2.2.1 < u 173 (10 * (m + 1) + q.1) := by
              rw [e24] at c0
              by_cases d1 : 1000000 ≤ y7
              · rw [if_pos d1] at c0
                omega
              · rw [if_neg d1] at c0
                by_cases d2 : u 173 y11 ≤ y7 + q.2.2.1
                · rw [if_pos d2] at c0
                  omega
                · rw [e11] at d2
                  exact ⟨by omega, by omega⟩
            refine ⟨Or.inr ⟨i.toNat, q, by omega, hk, ce.symm, hyes.1, by rw [ce]; exact g1⟩, fun j r j1 j2 j3 j4 => ?_⟩
            show w34 173 (10 * (m + 1) + e) ≤ _
            rw [ce, g1]
            simp only at j4 ⊢
            by_cases cj : j = i.toNat
            · rw [cj, hk] at j2
              cases j2
              omega
            · have := u2 j r (by omega) j2 (j3.trans ce) j4
              omega
        · have ge := g2 (10 * (m + 1) + e) (by omega)
          show (w34 173 (10 * (m + 1) + e) = 1000000 ∨ _) ∧ _
          refine ⟨?_, fun j r j1 j2 j3 j4 => ?_⟩
          · rw [ge]
            rcases u1 with u1 | ⟨j, r, j1, j2, j3, j4, j5⟩
            · exact Or.inl u1
            · exact Or.inr ⟨j, r, by omega, j2, j3, j4, by show w34 173 (10 * (m + 1) + e) = _; rw [ge]; exact j5⟩
          · show w34 173 (10 * (m + 1) + e) ≤ _
            rw [ge]
            simp only at j4 ⊢
            by_cases cj : j = i.toNat
            · rw [cj, hk] at j2
              cases j2
              exact absurd j3.symm ce
            · exact u2 j r (by omega) j2 j3 j4
  · rintro i v i0 i1 ⟨vf, vp, vg⟩ kk
    refine t_X9_laysSums_2 hM ⟨fun c => absurd c (by omega), fun _ => ⟨⟨by omega, by omega⟩, ⟨by omega, by omega⟩, ⟨by omega, by omega⟩, fun w4 e4 => ⟨⟨by omega, by omega⟩, kk w4 ⟨fun c hc => by rw [e4, z_Wf hc, vf c hc], fun j hj => by rw [e4, z_W_ne (Or.inr (by omega))]; exact vp j hj, fun e e0 e1 => ?_⟩⟩⟩⟩
    rw [e4]
    by_cases ce : e = i
    · subst ce; rw [z_W_same]
    · rw [z_W_ne (Or.inr (by omega))]; exact vg e e0 (by omega)
