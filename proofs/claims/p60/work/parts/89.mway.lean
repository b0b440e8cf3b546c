/-! WAY and WAYLENGTH, the reference -/
/-- the least sums of k steps first, p the row before, g the row -/
def z_rw (S : z_E) (p g : Int → Int) (k : Int) : Prop := ∀ e : Int, 0 ≤ e → e < 10 →
  (g e = 1000000 ∨ ∃ (j : Nat) (q : Int × Int × Int × Int), (j : Int) < k ∧ S[j]? = some q ∧ q.1 = e ∧ p q.2.1 < 1000000 ∧ g e = p q.2.1 + q.2.2.1) ∧
  ∀ (j : Nat) (q : Int × Int × Int × Int), (j : Int) < k → S[j]? = some q → q.1 = e → p q.2.1 < 1000000 → g e ≤ p q.2.1 + q.2.2.1
def z_rws (S : z_E) (f : Int → Int) (b M : Int) : Prop := (∀ e : Int, 0 ≤ e → e < 10 → f e = if e = b then 0 else 1000000) ∧
  ∀ m : Int, 0 ≤ m → m < M → z_rw S (fun e => f (10 * m + e)) (fun e => f (10 * (m + 1) + e)) (S.length : Int)
theorem z_rw_cg {S : z_E} {p p' g g' : Int → Int} {k : Int} (hw : z_wf S 10) (h : z_rw S p g k) (hp : ∀ e : Int, 0 ≤ e → e < 10 → p' e = p e) (hg : ∀ e : Int, 0 ≤ e → e < 10 → g' e = g e) : z_rw S p' g' k := by
  intro e e0 e1
  obtain ⟨h1, h2⟩ := h e e0 e1
  rw [hg e e0 e1]
  refine ⟨?_, fun j q j1 j2 j3 j4 => ?_⟩
  · rcases h1 with h1 | ⟨j, q, j1, j2, j3, j4, j5⟩
    · exact Or.inl h1
    · have hq := (hw q (List.mem_of_getElem? j2)).2
      exact Or.inr ⟨j, q, j1, j2, j3, by rw [hp _ hq.1 hq.2]; exact j4, by rw [hp _ hq.1 hq.2]; exact j5⟩
  · have hq := (hw q (List.mem_of_getElem? j2)).2
    rw [hp _ hq.1 hq.2] at j4 ⊢
    exact h2 j q j1 j2 j3 j4
theorem z_rws_R {S : z_E} {f : Int → Int} {b M : Int} (hw : z_wf S 10) (hR : ∀ q ∈ S, -999 ≤ q.2.2.1 ∧ q.2.2.1 ≤ 999) (h : z_rws S f b M) : ∀ m : Nat, (m : Int) ≤ M → ∀ e : Int, 0 ≤ e → e < 10 → f (10 * (m : Int) + e) = 1000000 ∨ (-999 * (m : Int) ≤ f (10 * (m : Int) + e) ∧ f (10 * (m : Int) + e) ≤ 999 * (m : Int))
  | 0, _, e, e0, e1 => by
    have := h.1 e e0 e1
    rw [show 10 * ((0 : Nat) : Int) + e = e by omega, this]
    split
    · exact Or.inr ⟨by omega, by omega⟩
    · exact Or.inl rfl
  | m + 1, hm, e, e0, e1 => by
    have ih := z_rws_R hw hR h m (by omega)
    rw [show ((m + 1 : Nat) : Int) = (m : Int) + 1 by omega]
    rcases (h.2 (m : Int) (by omega) (by omega) e e0 e1).1 with h1 | ⟨j, q, j1, j2, j3, j4, j5⟩
    · exact Or.inl h1
    · have hq := List.mem_of_getElem? j2
      have rq := hR q hq
      have := ih q.2.1 (hw q hq).2.1 (hw q hq).2.2
      simp only at j4 j5
      refine Or.inr ⟨?_, ?_⟩ <;> omega
theorem z_wf10 {A : z_A} (hA : z_okg A) : z_wf (z_Sx A (-1)) 10 := fun q hq => by
  have := z_Sx_wf hA (-1) q hq
  exact ⟨z_bl10 hA this.1, z_bl10 hA this.2⟩
theorem z_rws_lo {A : z_A} {f : Int → Int} {b M : Int} (hA : z_okg A) (hb : z_bears A) (hb' : z_bl (A 1 0) b) (h : z_rws (z_Sx A (-1)) f b M) : ∀ m : Nat, (m : Int) ≤ M → ∀ e : Int, z_bl (A 1 0) e → f (10 * (m : Int) + e) < 1000000 → z_dd A (-1) e b ≤ f (10 * (m : Int) + e) ∧ z_WW A e b ≤ 64 * f (10 * (m : Int) + e) + m
  | 0, _, e, he, hf => by
    have h10 := z_bl10 hA he
    have h0 := h.1 e h10.1 h10.2
    rw [show 10 * ((0 : Nat) : Int) + e = e by omega] at hf ⊢
    have eb : e = b := Classical.byContradiction fun c => by rw [if_neg c] at h0; omega
    rw [if_pos eb] at h0
    have h1 := z_D0 (z_WW_is hA hb) hb'
    have h2 := z_D0 (z_isd hA hb (-1)) hb'
    rw [← eb] at h1 h2
    rw [← eb, h1, h2, h0]
    exact ⟨by omega, by omega⟩
  | m + 1, hm, e, he, hf => by
    have h10 := z_bl10 hA he
    rw [show ((m + 1 : Nat) : Int) = (m : Int) + 1 by omega] at hf ⊢
    rcases (h.2 (m : Int) (by omega) (by omega) e h10.1 h10.2).1 with h1 | ⟨j, q, j1, j2, j3, j4, j5⟩
    · simp only at h1
      omega
    · have hq := List.mem_of_getElem? j2
      have hw := (z_sv_A hA hb (-1)).2.1
      obtain ⟨w1, w2⟩ := hw q hq
      have ih := z_rws_lo hA hb hb' h m (by omega) q.2.1 w2 j4
      have s1 := z_Dst (z_isd hA hb (-1)) hw hq
      have t1 := z_Dtri (z_isd hA hb (-1)) w1 hb' w2
      have s2 := z_Dst (z_WW_is hA hb) (z_sc_wf hw) (q := (q.1, q.2.1, 64 * q.2.2.1 + 1, q.2.2.2)) (List.mem_map.mpr ⟨q, hq, rfl⟩)
      have t2 := z_Dtri (z_WW_is hA hb) w1 hb' w2
      simp only at s2 j5
      rw [j3] at s1 t1 s2 t2
      exact ⟨by omega, by omega⟩
theorem z_rws_hi {A : z_A} {f : Int → Int} {b M : Int} (hA : z_okg A) (hb : z_bears A) (hb' : z_bl (A 1 0) b) (h : z_rws (z_Sx A (-1)) f b M) : ∀ m : Nat, (m : Int) ≤ M → ∀ e : Int, z_bl (A 1 0) e → z_cn A e b = m → f (10 * (m : Int) + e) = z_dd A (-1) e b
  | 0, _, e, he, hc => by
    have h10 := z_bl10 hA he
    have eb := (z_cn_0 hA hb he hb').mp hc
    have h0 := h.1 e h10.1 h10.2
    rw [if_pos eb] at h0
    rw [show 10 * ((0 : Nat) : Int) + e = e by omega, h0, ← eb, z_D0 (z_isd hA hb (-1)) he]
  | m + 1, hm, e, he, hc => by
    have h10 := z_bl10 hA he
    rw [show ((m + 1 : Nat) : Int) = (m : Int) + 1 by omega] at hc ⊢
    have hne : e ≠ b := fun c => by
      have := (z_cn_0 hA hb he hb').mpr c
      omega
    obtain ⟨⟨x0, x1, -⟩, x2, x3, x4, x5, x6, x7⟩ := z_nx_ok hA hb he hb' hne
    have ih := z_rws_hi hA hb hb' h m (by omega) _ x5 (by omega)
    have rd := z_dd_R (lo := -1) hA hb x5 hb'
    have up := (h.2 (m : Int) (by omega) (by omega) e h10.1 h10.2).2 _ _ (by omega) x2 x3 (by show f (10 * (m : Int) + (z_nxt A b e).2.1) < 1000000; omega)
    simp only at up
    have rd2 := z_dd_R (lo := -1) hA hb he hb'
    have lo := z_rws_lo hA hb hb' h (m + 1) (by omega) e he
    rw [show ((m + 1 : Nat) : Int) = (m : Int) + 1 by omega] at lo
    have := lo (by omega)
    omega
/-- the reference's and the class's first steps -/
theorem z_rws_iff {A : z_A} {f : Int → Int} {b M m : Int} (hA : z_okg A) (hb : z_bears A) (hb' : z_bl (A 1 0) b) (h : z_rws (z_Sx A (-1)) f b M) (m0 : 0 ≤ m) (m1 : m ≤ M) {e : Int} (he : z_bl (A 1 0) e) (hc : z_cn A e b = m + 1)
    {q : Int × Int × Int × Int} (hq : q ∈ z_Sx A (-1)) (hq1 : q.1 = e) : q.2.2.1 + f (10 * m + q.2.1) = z_dd A (-1) e b ↔ 64 * q.2.2.1 + 1 + z_WW A q.2.1 b = z_WW A e b := by
  have hw := (z_sv_A hA hb (-1)).2.1
  obtain ⟨w1, w2⟩ := hw q hq
  have em : ((m.toNat : Nat) : Int) = m := by omega
  have lo := z_rws_lo hA hb hb' h m.toNat (by omega) q.2.1 w2
  have hi := z_rws_hi hA hb hb' h m.toNat (by omega) q.2.1 w2
  rw [em] at lo hi
  have rq := z_Sx_R hA hq
  have rd := z_dd_R (lo := -1) hA hb he hb'
  have rd2 := z_dd_R (lo := -1) hA hb w2 hb'
  have s1 := z_Dst (z_isd hA hb (-1)) hw hq
  have t1 := z_Dtri (z_isd hA hb (-1)) w1 hb' w2
  have s2 := z_Dst (z_WW_is hA hb) (z_sc_wf hw) (q := (q.1, q.2.1, 64 * q.2.2.1 + 1, q.2.2.2)) (List.mem_map.mpr ⟨q, hq, rfl⟩)
  have t2 := z_Dtri (z_WW_is hA hb) w1 hb' w2
  simp only at s2
  rw [hq1] at s1 t1 s2 t2
  have c1 := z_cn_R hA hb he hb'
  have c2 := z_cn_R hA hb w2 hb'
  have r1 := hA.2.1
  constructor
  · intro g
    have := lo (by omega)
    unfold z_cn at hc
    omega
  · intro g
    have hc2 : z_cn A q.2.1 b = m := by
      unfold z_cn at hc c1 c2 ⊢
      omega
    have := hi hc2
    unfold z_cn at hc c1 c2 hc2
    omega
