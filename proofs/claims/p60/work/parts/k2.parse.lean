/-! WHAT IS READ: a part of the net, events first, then gaps, then pins -/
def z_pq (A P : z_A) (n g k : Int) : Prop := P 0 0 = A 0 0 ∧ P 1 0 = n ∧ P 2 0 = g ∧ (∀ i : Int, 0 ≤ i → i < g → P 3 i = A 3 i ∧ P 4 i = A 4 i ∧ P 5 i = A 5 i ∧ P 6 i = A 6 i ∧ P 7 i = A 7 i) ∧ (∀ e : Int, z_bl n e → P 9 e = A 9 e) ∧ ∀ e : Int, z_bl n e → P 8 e = if e ≤ k then A 8 e else -1
section ZPQ
variable {T : z_T} {τ : z_K4} {A P : z_A} {n g k : Int} {R : List Int}
theorem z_pq.nmd (h : z_pq A P n g k) (hn : n ≤ A 1 0) (hi : z_nmi A) {e : Int} (he : z_bl n e) : z_nmd P (A 9 e) = e := by
  obtain ⟨p0, p1, p2, pg, pn, pp⟩ := h
  refine z_fi1_of (Or.inr ⟨he.1, by rw [p1]; exact he.2, pn e he, fun f f0 f1 c => ?_⟩)
  have c' : P 9 f = A 9 e := c
  rw [pn f ⟨f0, by have := he.2; omega⟩] at c'
  have := hi.2 f e ⟨f0, by have := he.2; omega⟩ ⟨he.1, by have := he.2; omega⟩ c'
  omega
theorem z_pq.nm0 (h : z_pq A P n g k) (hn : n < A 1 0) (h0 : 0 ≤ n) (hi : z_nmi A) : z_nmd P (A 9 n) = -2 := by
  obtain ⟨p0, p1, p2, pg, pn, pp⟩ := h
  refine z_fi1_of (Or.inl ⟨rfl, fun f f0 f1 c => ?_⟩)
  have c' : P 9 f = A 9 n := c
  rw [p1] at f1
  rw [pn f ⟨f0, f1⟩] at c'
  have := hi.2 f n ⟨f0, by omega⟩ ⟨h0, hn⟩ c'
  omega
theorem z_pq.F (h : z_pq A P (A 1 0) g k) (hg : g ≤ A 2 0) {x : Int → Int} (hx : z_F A (-1) x) : z_F P (-1) x := by
  obtain ⟨p0, p1, p2, pg, pn, pp⟩ := h
  obtain ⟨x1, x2, x3⟩ := hx
  refine ⟨fun i i0 i1 i2 i3 => ?_, fun e e0 e1 => ?_, fun e e0 e1 e2 => ?_⟩
  · rw [p2] at i1
    obtain ⟨g3, g4, g5, g6, g7⟩ := pg i i0 i1
    rw [g7] at i2
    have := x1 i i0 (by omega) i2 i3
    unfold z_Fg at this ⊢
    rw [g3, g4, g5, g6]
    exact this
  · rw [p1] at e1
    rw [p0]
    exact x2 e e0 e1
  · rw [p1] at e1
    rw [pp e ⟨by omega, e1⟩] at e2 ⊢
    by_cases c : e ≤ k
    · rw [if_pos c] at e2 ⊢
      exact x3 e e0 e1 e2
    · rw [if_neg c] at e2
      exact absurd rfl e2
theorem z_pq.bears (h : z_pq A P (A 1 0) g k) (hg : g ≤ A 2 0) (hb : z_bears A) : z_bears P := by
  obtain ⟨x, hx⟩ := hb
  exact ⟨x, h.F hg hx⟩
theorem z_pq_opn (h : z_pq A P n 0 0) (hn : 1 ≤ n) : z_pq A (z_opn P (A 9 n)) (n + 1) 0 0 := by
  obtain ⟨p0, p1, p2, pg, pn, pp⟩ := h
  refine ⟨?_, ?_, z_opn_2.trans p2, fun i i0 i1 => absurd i1 (by omega), fun e he => ?_, fun e he => ?_⟩
  · rw [z_opn_ne (Or.inl (by decide)) (Or.inl (by decide)) (Or.inl (by decide))]; exact p0
  · rw [z_opn_1, p1]
  · by_cases c : e = n
    · have := z_opn_9 (A := P) (v := A 9 n) (by omega)
      rw [p1] at this
      rw [c]; exact this
    · rw [z_opn_ne (Or.inl (by decide)) (Or.inr (by rw [p1]; exact c)) (Or.inl (by decide))]
      exact pn e ⟨he.1, by have := he.2; omega⟩
  · by_cases c : e = n
    · have := z_opn_8 (A := P) (v := A 9 n)
      rw [p1] at this
      rw [c, if_neg (by omega)]; exact this
    · rw [z_opn_ne (Or.inl (by decide)) (Or.inl (by decide)) (Or.inr (by rw [p1]; exact c))]
      exact pp e ⟨he.1, by have := he.2; omega⟩
theorem z_pq_add (h : z_pq A P n g k) : z_pq A (z_add P (A 3 g) (A 4 g) (A 5 g) (A 6 g) (A 7 g)) n (g + 1) k := by
  obtain ⟨p0, p1, p2, pg, pn, pp⟩ := h
  obtain ⟨n3, n4, n5, n6, n7⟩ := z_add_new (A := P) (one := A 3 g) (oth := A 4 g) (kd := A 5 g) (n := A 6 g) (on := A 7 g)
  rw [p2] at n3 n4 n5 n6 n7
  refine ⟨?_, ?_, ?_, fun i i0 i1 => ?_, fun e he => ?_, fun e he => ?_⟩
  · rw [z_add_lt (Or.inl (by decide))]; exact p0
  · rw [z_add_lt (Or.inl (by decide))]; exact p1
  · rw [z_add_2, p2]
  · by_cases c : i = g
    · rw [c]
      exact ⟨n3, n4, n5, n6, n7⟩
    · have c' : i ≠ P 2 0 := by rw [p2]; exact c
      rw [z_add_old ⟨by decide, by decide⟩ c', z_add_old ⟨by decide, by decide⟩ c', z_add_old ⟨by decide, by decide⟩ c', z_add_old ⟨by decide, by decide⟩ c', z_add_old ⟨by decide, by decide⟩ c']
      exact pg i i0 (by omega)
  · rw [z_add_lt (Or.inr (by decide))]; exact pn e he
  · rw [z_add_lt (Or.inr (by decide))]; exact pp e he
theorem z_pq_pin (h : z_pq A P n g k) : z_pq A (z_up P 8 (k + 1) (A 8 (k + 1))) n g (k + 1) := by
  obtain ⟨p0, p1, p2, pg, pn, pp⟩ := h
  have u : ∀ (ch : Nat) (j : Int), ch ≠ 8 → z_up P 8 (k + 1) (A 8 (k + 1)) ch j = P ch j := fun ch j hc => z_up_ne (Or.inl hc)
  refine ⟨?_, ?_, ?_, fun i i0 i1 => ?_, fun e he => ?_, fun e he => ?_⟩
  · rw [u _ _ (by decide)]; exact p0
  · rw [u _ _ (by decide)]; exact p1
  · rw [u _ _ (by decide)]; exact p2
  · rw [u _ _ (by decide), u _ _ (by decide), u _ _ (by decide), u _ _ (by decide), u _ _ (by decide)]
    exact pg i i0 i1
  · rw [u _ _ (by decide)]; exact pn e he
  · by_cases c : e = k + 1
    · rw [c, z_up_same, if_pos (Int.le_refl _)]
    · rw [z_up_ne (Or.inr c), pp e he]
      by_cases d : e ≤ k
      · rw [if_pos d, if_pos (by omega)]
      · rw [if_neg d, if_neg (by omega)]
theorem z_pq_skip (h : z_pq A P n g k) (hk : A 8 (k + 1) = -1) : z_pq A P n g (k + 1) := by
  obtain ⟨p0, p1, p2, pg, pn, pp⟩ := h
  refine ⟨p0, p1, p2, pg, pn, fun e he => ?_⟩
  rw [pp e he]
  by_cases d : e ≤ k
  · rw [if_pos d, if_pos (by omega)]
  · rw [if_neg d]
    by_cases c : e = k + 1
    · rw [if_pos (by omega), c, hk]
    · rw [if_neg (by omega)]
theorem z_pq.same (h : z_pq A P (A 1 0) (A 2 0) (A 1 0 - 1)) : z_same A P := by
  obtain ⟨p0, p1, p2, pg, pn, pp⟩ := h
  refine ⟨⟨p0.symm, p1.symm, p2.symm, fun i i0 i1 => ?_, fun e e0 e1 => ?_⟩, pn⟩
  · obtain ⟨a, b, c, d, e⟩ := pg i i0 i1
    exact ⟨a.symm, b.symm, c.symm, d.symm, e.symm⟩
  · rw [pp e ⟨e0, e1⟩, if_pos (by omega)]
theorem z_pq_ini (hA : z_ok A) : z_pq A (z_ini (A 0 0)) 1 0 0 := by
  obtain ⟨i0, i1, i2, i8, i9, -⟩ := z_ini_v (n := A 0 0)
  refine ⟨i0, i1, i2, fun i a b => absurd b (by omega), fun e he => ?_, fun e he => ?_⟩
  · rw [show e = 0 by have := he.1; have := he.2; omega, i9, hA.2.2.2.1]
  · rw [show e = 0 by have := he.1; have := he.2; omega, i8, if_pos (Int.le_refl _), hA.1.2.2.2.2.2]
/-! what stands behind -/
theorem z_hdP : ∀ (n k : Nat) (τ : z_K4), z_kur T τ (z_fr (z_gP A) n k []) → τ.2.2.1 = 0 ∨ z_isk τ 16686
  | 0, k, τ, h => Or.inl (z_kur_end h)
  | n + 1, k, τ, h => by
    have h' : z_kur T τ (z_gP A k (z_fr (z_gP A) n (k + 1) [])) := h
    unfold z_gP at h'
    by_cases c : A 8 ((k : Int) + 1) = -1
    · rw [if_pos c] at h'
      exact z_hdP n (k + 1) τ h'
    · rw [if_neg c] at h'
      exact Or.inr (z_kur_word h' z_vwk.2.2.2.1 (by decide)).1
theorem z_hdG {m : Nat} : ∀ (n k : Nat) (τ : z_K4), z_kur T τ (z_fr (z_gG A) n k (z_fr (z_gP A) m 0 [])) → (τ.2.2.1 = 0 ∨ z_isk τ 16686) ∨ z_isk τ 7216
  | 0, k, τ, h => Or.inl (z_hdP m 0 τ h)
  | n + 1, k, τ, h => by
    have h' : z_kur T τ (z_gG A k (z_fr (z_gG A) n (k + 1) (z_fr (z_gP A) m 0 []))) := h
    unfold z_gG at h'
    exact Or.inr (z_kur_word h' z_vwk.2.2.1 (by decide)).1
/-! events -/
theorem z_lev_of (hA : z_ok A) (hi : z_nmi A) (hR : ∀ τ, z_kur T τ R → ¬ z_isk τ 5969364) : ∀ (n k f : Nat) (P : z_A) (τ : z_K4), (k : Int) + n + 1 = A 1 0 → n < f → z_pq A P ((k : Int) + 1) 0 0 → z_kur T τ (z_fr (z_gE A) n k R) → ¬ (z_lev T f P τ).1 = 0 ∧ z_pq A (z_lev T f P τ).2.1 (A 1 0) 0 0 ∧ z_kur T (z_lev T f P τ).2.2 R
  | _, _, 0, _, _, _, hf, _, _ => absurd hf (by omega)
  | 0, k, f + 1, P, τ, hk, _, hq, h => by
    have h' : z_kur T τ R := h
    unfold z_lev
    rw [if_neg (hR τ h')]
    rw [show A 1 0 = (k : Int) + 1 by omega]
    exact ⟨show ¬ (1 : Int) = 0 by decide, hq, h'⟩
  | n + 1, k, f + 1, P, τ, hk, hf, hq, h => by
    have r1 := hA.1.2.1
    have h' : z_kur T τ (z_gE A k (z_fr (z_gE A) n (k + 1) R)) := h
    unfold z_gE at h'
    have hv : z_vw (A 9 ((k : Int) + 1)) := hA.2.2.1 _ (by omega) (by omega)
    obtain ⟨a, h1⟩ := z_kur_word h' z_vwk.2.1 (by decide)
    obtain ⟨⟨b1, b2⟩, h2⟩ := z_kur_word (z_kur_sw h1 hv) hv (by decide)
    obtain ⟨c1, h3⟩ := z_kur_mark h2
    have hkw : ¬ z_kwp (A 9 ((k : Int) + 1)) := by
      have := hi.1 ((k : Int) + 1) (by omega) (by omega)
      unfold z_kwp
      omega
    have hnm := hq.nm0 (by omega) (by omega) hi
    have ep : z_pev T P τ = (1, z_opn P (A 9 ((k : Int) + 1)), z_nx T (z_nx T (z_nx T τ))) := by
      unfold z_pev
      rw [if_neg (by rw [hq.2.1]; omega), if_pos ⟨b1, by rw [b2]; exact hkw, by rw [b2]; exact hnm⟩, if_pos c1, b2]
    unfold z_lev
    rw [if_pos (show z_isk τ 5969364 from a), ep, if_neg (show ¬ (1 : Int) = 0 by decide)]
    refine z_lev_of hA hi hR n (k + 1) f _ _ (by omega) (by omega) ?_ h3
    have := z_pq_opn hq (by omega)
    rw [show ((k + 1 : Nat) : Int) + 1 = (k : Int) + 1 + 1 by omega]
    exact this
/-! gaps -/
theorem z_pgp_of (hA : z_ok A) (hi : z_nmi A) {k : Nat} (hk : (k : Int) < A 2 0) (hq : z_pq A P (A 1 0) k 0) (h : z_kur T τ (z_gG A k R)) : z_isk τ 7216 ∧ ∃ τ', z_pgp T P τ = (1, z_add P (A 3 k) (A 4 k) (A 5 k) (A 6 k) (A 7 k), τ') ∧ z_kur T τ' R := by
  have r1 := hA.1.2.1
  have r2 := hA.1.2.2.1
  obtain ⟨g3, g4, g34, g5, g6, g7⟩ := hA.1.2.2.2.1 (k : Int) (by omega) hk
  have v3 := hA.2.2.1 _ g3.1 g3.2
  have v4 := hA.2.2.1 _ g4.1 g4.2
  have vk : z_vw (if A 5 (k : Int) = 0 then 441972 else 12748404) := by
    split
    · exact z_vwk.2.2.2.2.1
    · exact z_vwk.2.2.2.2.2.1
  unfold z_gG at h
  obtain ⟨a, h1⟩ := z_kur_word h z_vwk.2.2.1 (by decide)
  obtain ⟨⟨b1, b2⟩, h2⟩ := z_kur_word (z_kur_sw h1 v3) v3 (by decide)
  obtain ⟨⟨c1, c2⟩, h3⟩ := z_kur_word (z_kur_sw h2 v4) v4 (by decide)
  obtain ⟨⟨d1, d2⟩, h4⟩ := z_kur_word (z_kur_sw h3 vk) vk (by decide)
  have n3 := hq.nmd (Int.le_refl _) hi g3
  have n4 := hq.nmd (Int.le_refl _) hi g4
  have hkd : z_kdv (z_nx T (z_nx T (z_nx T τ))) = A 5 (k : Int) := by
    unfold z_kdv
    by_cases c : A 5 (k : Int) = 0
    · rw [if_pos c] at d2
      rw [if_pos (show z_isk _ _ from ⟨d1, d2⟩), c]
    · rw [if_neg c] at d2
      rw [if_neg (fun q : z_isk _ _ => absurd (d2.symm.trans q.2) (by decide))]
      omega
  have hks : z_isk (z_nx T (z_nx T (z_nx T τ))) 441972 ∨ z_isk (z_nx T (z_nx T (z_nx T τ))) 12748404 := by
    by_cases c : A 5 (k : Int) = 0
    · rw [if_pos c] at d2
      exact Or.inl ⟨d1, d2⟩
    · rw [if_neg c] at d2
      exact Or.inr ⟨d1, d2⟩
  have hb : A 7 (k : Int) = 0 ∨ z_bears (z_add P (A 3 k) (A 4 k) (A 5 k) (A 6 k) 1) := by
    rcases (by omega : A 7 (k : Int) = 0 ∨ A 7 (k : Int) = 1) with c | c
    · exact Or.inl c
    · have := (z_pq_add hq).bears (by omega) hA.2.1
      rw [c] at this
      exact Or.inr this
  refine ⟨a, ?_⟩
  unfold z_pgp
  rw [if_neg (by rw [hq.2.2.1]; omega), if_pos ⟨b1, by rw [b2, n3]; omega⟩, if_pos ⟨c1, by rw [c2, n4]; omega, by rw [c2, n4, b2, n3]; omega⟩, if_pos hks, b2, c2, n3, n4, hkd]
  generalize z_nx T (z_nx T (z_nx T τ)) = τ3 at h4
  unfold z_pg4
  by_cases c : A 7 (k : Int) = 0
  · rw [if_pos c] at h4
    obtain ⟨⟨e1, e2⟩, h5⟩ := z_kur_num (z_kur_sn h4 g6) g6 (Or.inl (by decide))
    obtain ⟨f, h6⟩ := z_kur_word (z_kur_sw h5 z_vwk.2.2.2.2.2.2) z_vwk.2.2.2.2.2.2 (by decide)
    obtain ⟨m1, h7⟩ := z_kur_mark h6
    rw [if_pos e1, if_pos (show z_isk (z_nx T (z_nx T τ3)) 15558 from f), e2]
    unfold z_pg6
    rw [if_pos ⟨m1, Or.inl rfl⟩, c]
    exact ⟨_, rfl, h7⟩
  · rw [if_neg c] at h4
    obtain ⟨⟨e1, e2⟩, h5⟩ := z_kur_num (z_kur_sn h4 g6) g6 (Or.inr (by decide))
    obtain ⟨m1, h6⟩ := z_kur_mark h5
    rw [if_pos e1, if_neg (fun q : z_isk (z_nx T (z_nx T τ3)) 15558 => absurd (m1.symm.trans q.1) (by decide)), e2]
    unfold z_pg6
    rw [if_pos ⟨m1, hb.elim (fun q => absurd q c) Or.inr⟩, show A 7 (k : Int) = 1 by omega]
    exact ⟨_, rfl, h6⟩
theorem z_lgp_of (hA : z_ok A) (hi : z_nmi A) (hR : ∀ τ, z_kur T τ R → ¬ z_isk τ 7216) : ∀ (n k f : Nat) (P : z_A) (τ : z_K4), (k : Int) + n = A 2 0 → n < f → z_pq A P (A 1 0) (k : Int) 0 → z_kur T τ (z_fr (z_gG A) n k R) → ¬ (z_lgp T f P τ).1 = 0 ∧ z_pq A (z_lgp T f P τ).2.1 (A 1 0) (A 2 0) 0 ∧ z_kur T (z_lgp T f P τ).2.2 R
  | _, _, 0, _, _, _, hf, _, _ => absurd hf (by omega)
  | 0, k, f + 1, P, τ, hk, _, hq, h => by
    have h' : z_kur T τ R := h
    unfold z_lgp
    rw [if_neg (hR τ h')]
    rw [show A 2 0 = (k : Int) by omega]
    exact ⟨show ¬ (1 : Int) = 0 by decide, hq, h'⟩
  | n + 1, k, f + 1, P, τ, hk, hf, hq, h => by
    have h' : z_kur T τ (z_gG A k (z_fr (z_gG A) n (k + 1) R)) := h
    obtain ⟨a, τ', ep, h3⟩ := z_pgp_of hA hi (by omega) hq h'
    unfold z_lgp
    rw [if_pos a, ep, if_neg (show ¬ (1 : Int) = 0 by decide)]
    refine z_lgp_of hA hi hR n (k + 1) f _ _ (by omega) (by omega) ?_ h3
    exact z_pq_add hq
/-! pins -/
theorem z_lpn_of (hA : z_ok A) (hi : z_nmi A) : ∀ (n k f : Nat) (P : z_A) (τ : z_K4), (k : Int) + n + 1 = A 1 0 → n ≤ f → z_pq A P (A 1 0) (A 2 0) (k : Int) → z_kur T τ (z_fr (z_gP A) n k []) → ¬ (z_lpn T f P τ).1 = 0 ∧ z_same A (z_lpn T f P τ).2.1
  | 0, k, f, P, τ, hk, _, hq, h => by
    have h0 : τ.2.2.1 = 0 := z_kur_end h
    rw [show (k : Int) = A 1 0 - 1 by omega] at hq
    have hs := hq.same
    cases f with
    | zero =>
      unfold z_lpn
      rw [if_pos h0]
      exact ⟨show ¬ (1 : Int) = 0 by decide, hs⟩
    | succ f =>
      unfold z_lpn
      rw [if_neg (fun q : z_isk τ 16686 => absurd (h0.symm.trans q.1) (by decide)), if_pos h0]
      exact ⟨show ¬ (1 : Int) = 0 by decide, hs⟩
  | n + 1, k, f, P, τ, hk, hf, hq, h => by
    have r1 := hA.1.2.1
    have h' : z_kur T τ (z_gP A k (z_fr (z_gP A) n (k + 1) [])) := h
    unfold z_gP at h'
    by_cases c : A 8 ((k : Int) + 1) = -1
    · rw [if_pos c] at h'
      exact z_lpn_of hA hi n (k + 1) f P τ (by omega) (by omega) (z_pq_skip hq c) h'
    · rw [if_neg c] at h'
      match f, hf with
      | 0, hf => exact absurd hf (by omega)
      | f + 1, hf =>
        have hv : z_vw (A 9 ((k : Int) + 1)) := hA.2.2.1 _ (by omega) (by omega)
        have hp := hA.1.2.2.2.2.1 ((k : Int) + 1) (by omega) (by omega)
        have he : A 8 ((k : Int) + 1) ≤ A 0 0 := by
          obtain ⟨x, -, x2, x3⟩ := hA.2.1
          have := x2 ((k : Int) + 1) (by omega) (by omega)
          have := x3 ((k : Int) + 1) (by omega) (by omega) c
          omega
        obtain ⟨a, h1⟩ := z_kur_word h' z_vwk.2.2.2.1 (by decide)
        obtain ⟨⟨b1, b2⟩, h2⟩ := z_kur_word (z_kur_sw h1 hv) hv (by decide)
        obtain ⟨⟨e1, e2⟩, h3⟩ := z_kur_num (z_kur_sn h2 ⟨by omega, hp.2⟩) ⟨by omega, hp.2⟩ (Or.inr (by decide))
        obtain ⟨m1, h4⟩ := z_kur_mark h3
        have nm := hq.nmd (e := (k : Int) + 1) (Int.le_refl _) hi ⟨by omega, by omega⟩
        have p8 : P 8 ((k : Int) + 1) = -1 := by rw [hq.2.2.2.2.2 _ ⟨by omega, by omega⟩, if_neg (by omega)]
        have hq' := z_pq_pin hq
        have ep : z_ppn T P τ = (1, z_up P 8 ((k : Int) + 1) (A 8 ((k : Int) + 1)), z_nx T (z_nx T (z_nx T (z_nx T τ)))) := by
          unfold z_ppn
          rw [if_pos ⟨b1, by rw [b2, nm]; omega, by rw [b2, nm]; exact p8⟩, if_pos ⟨e1, by rw [e2, hq.1]; exact he⟩, b2, nm, e2, if_pos ⟨m1, hq'.bears (Int.le_refl _) hA.2.1⟩]
        unfold z_lpn
        rw [if_pos (show z_isk τ 16686 from a), ep, if_neg (show ¬ (1 : Int) = 0 by decide)]
        exact z_lpn_of hA hi n (k + 1) f _ _ (by omega) (by omega) hq' h4
end ZPQ
theorem z_parsesY : z_parses := by
  intro A hA hi T hT
  obtain ⟨t1, t2⟩ := hT
  have r0 := hA.1.1
  have r1 := hA.1.2.1
  have r2 := hA.1.2.2.1
  have h0 : z_kur T (z_tok T 0) (z_stx A) := ⟨0, ⟨Int.le_refl _, by omega, fun i x hx => by
    have hi := (List.getElem?_eq_some_iff.mp hx).1
    rw [Int.zero_add, t2 i (by omega) (by omega)]
    unfold z_cht
    rw [if_pos (by omega), Int.toNat_natCast, hx]
    rfl⟩, rfl⟩
  rw [z_stx_R] at h0
  obtain ⟨a, h1⟩ := z_kur_word h0 z_vwk.1 (by decide)
  obtain ⟨⟨b1, b2⟩, h2⟩ := z_kur_num (z_kur_sn h1 ⟨by omega, r0.2⟩) ⟨by omega, r0.2⟩ (Or.inr (by decide))
  obtain ⟨c1, h3⟩ := z_kur_mark h2
  have ep : z_pen T (z_tok T 0) = (1, z_ini (A 0 0), z_nx T (z_nx T (z_nx T (z_tok T 0)))) := by
    unfold z_pen
    rw [if_pos (show z_isk (z_tok T 0) 5572 from a), if_pos ⟨b1, by rw [b2]; exact r0.1⟩, if_pos c1, b2]
  unfold z_ld0
  rw [ep, if_neg (show ¬ (1 : Int) = 0 by decide)]
  generalize z_nx T (z_nx T (z_nx T (z_tok T 0))) = τ0 at h3
  obtain ⟨e1, e2, e3⟩ := z_lev_of hA hi (fun τ hτ c => by
    have c1 := c.1
    have c2 := c.2
    rcases z_hdG _ 0 τ hτ with (q | q) | q
    · omega
    · have := q.2; omega
    · have := q.2; omega) (A 1 0 - 1).toNat 0 10 _ _ (by omega) (by omega) (z_pq_ini hA) h3
  unfold z_ld1
  show ¬ (if (z_lev T 10 (z_ini (A 0 0)) τ0).1 = 0 then z_lev T 10 (z_ini (A 0 0)) τ0 else z_ld2 T (z_lev T 10 (z_ini (A 0 0)) τ0).2.1 (z_lev T 10 (z_ini (A 0 0)) τ0).2.2).1 = 0 ∧ z_same A (if (z_lev T 10 (z_ini (A 0 0)) τ0).1 = 0 then z_lev T 10 (z_ini (A 0 0)) τ0 else z_ld2 T (z_lev T 10 (z_ini (A 0 0)) τ0).2.1 (z_lev T 10 (z_ini (A 0 0)) τ0).2.2).2.1
  rw [if_neg e1]
  generalize (z_lev T 10 (z_ini (A 0 0)) τ0).2.1 = P1 at e2
  generalize (z_lev T 10 (z_ini (A 0 0)) τ0).2.2 = τ1 at e3
  obtain ⟨f1, f2, f3⟩ := z_lgp_of hA hi (fun τ hτ c => by
    have c1 := c.1
    have c2 := c.2
    rcases z_hdP _ 0 τ hτ with q | q
    · omega
    · have := q.2; omega) (A 2 0).toNat 0 25 P1 τ1 (by omega) (by omega) e2 e3
  unfold z_ld2
  rw [if_neg f1]
  exact z_lpn_of hA hi (A 1 0 - 1).toNat 0 10 _ _ (by omega) (by omega) f2 f3
