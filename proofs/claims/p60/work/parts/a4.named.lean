/-! MORE OF NAMES -/
theorem c_countSpaces {sh : List z_C} {w : z_Mm} {T : z_T} {p : Int} {K : Int → z_Mm → Prop} (hT : z_isTG sh 0) (h : z_tc w T) (p0 : 0 ≤ p) (p1 : p ≤ T.1) (k : K (z_rn (z_spc T) p T.1 - p) w) : z_CI mX6_countSpaces [z_r 140, z_i p] sh w K := by
  have hP : z_isTap sh 140 := hT.2.2.2.2.2.2.2.1
  obtain ⟨r1, r2, r3, r4⟩ := z_rn_is (g := z_spc T) p1
  have h0 := h.1
  have h1 := h.2.1
  refine z_CIi (t_X6_countSpaces hP ?_)
  refine z_for (n := z_rn (z_spc T) p T.1) (i0 := p) (fun i v => z_Sem mX6_countSpaces (sh.length, 0) 2 [(0, z_r 140), (1, z_i p), (2, z_i i)] [] (sh, v) _) (fun i v => v = w) r1 rfl ?_ ?_
  · rintro v rfl
    refine t_X6_countSpaces_2 hP ⟨fun _ => ⟨⟨by omega, by omega⟩, _, _, rfl, rfl, k⟩, fun q => ?_⟩
    obtain ⟨b1, b2⟩ := h.at (i := z_rn (z_spc T) p T.1) (by omega) (by omega)
    have no := r4 (by omega)
    rw [b1]
    exact ⟨b2, fun q2 => absurd (Or.inl q2) no, fun _ => ⟨b2, fun q2 => absurd (Or.inr q2) no, fun _ => ⟨⟨by omega, by omega⟩, _, _, rfl, rfl, k⟩⟩⟩
  · rintro i v i0 i1 rfl kk
    obtain ⟨b1, b2⟩ := h.at (i := i) (by omega) (by omega)
    have yes := r3 i i0 i1
    refine t_X6_countSpaces_2 hP ⟨fun q => absurd q (by omega), fun _ => ?_⟩
    rw [b1]
    exact ⟨b2, fun _ => ⟨⟨by omega, by omega⟩, kk v rfl⟩, fun q2 => ⟨b2, fun _ => ⟨⟨by omega, by omega⟩, kk v rfl⟩, fun q3 => absurd yes (fun c => c.elim q2 q3)⟩⟩
theorem z_lts_run {T : z_T} {p c : Int} (p0 : 0 ≤ p) (p1 : p ≤ T.1) (c1 : 1 ≤ c) (c5 : c ≤ 5) (h : p + c ≤ z_rn (z_ltr T) p T.1) : z_lts T p c := by
  obtain ⟨r1, r2, r3, r4⟩ := z_rn_is (g := z_ltr T) p1
  exact ⟨p0, by omega, ⟨c1, c5⟩, fun i i0 i1 => r3 (p + i) (by omega) (by omega)⟩
theorem z_lts_rn {T : z_T} {p c : Int} (h : z_lts T p c) : p + c ≤ z_rn (z_ltr T) p T.1 := by
  obtain ⟨l0, l1, l2, l3⟩ := h
  obtain ⟨r1, r2, r3, r4⟩ := z_rn_is (g := z_ltr T) (a := p) (n := T.1) (by omega)
  refine Classical.byContradiction fun c' => ?_
  have := l3 (z_rn (z_ltr T) p T.1 - p) (by omega) (by omega)
  rw [show p + (z_rn (z_ltr T) p T.1 - p) = z_rn (z_ltr T) p T.1 by omega] at this
  exact r4 (by omega) this
theorem c_isName {sh : List z_C} {w : z_Mm} {T : z_T} {p c : Int} {K : Int → z_Mm → Prop} (hT : z_isTG sh 0) (h : z_tc w T) (p0 : 0 ≤ p) (p1 : p ≤ T.1) (k1 : z_lts T p c → ¬ z_kwp (z_tw T p c) → K 1 w) (k0 : ¬ (z_lts T p c ∧ ¬ z_kwp (z_tw T p c)) → K 0 w) : z_CI mX6_isName [z_r 140, z_i p, z_i c] sh w K := by
  have hP : z_isTap sh 140 := hT.2.2.2.2.2.2.2.1
  refine z_CIi (t_X6_isName hP ⟨fun q => ⟨_, _, rfl, rfl, k0 (fun e => by have := e.1.2.2.1; omega)⟩, fun q => ⟨fun q2 => ⟨_, _, rfl, rfl, k0 (fun e => by have := e.1.2.2.1; omega)⟩, fun q2 => ?_⟩⟩)
  refine c_countLetters hT h p0 p1 ⟨fun q3 => ⟨_, _, rfl, rfl, k0 (fun e => by have := z_lts_rn e.1; omega)⟩, fun q3 => ?_⟩
  have hl := z_lts_run p0 p1 (c := c) (by omega) (by omega) (by omega)
  exact c_isKeyword hT h hl (fun e => ⟨_, _, rfl, rfl, k0 (fun c => c.2 e)⟩) (fun e => ⟨_, _, rfl, rfl, k1 hl e⟩)
theorem c_isNamed {sh : List z_C} {w : z_Mm} {P : Nat} {T : z_T} {p c e v : Int} {K : Int → z_Mm → Prop} (hT : z_isTG sh 0) (hP : z_isPla sh P) (h : z_tc w T) (hl : z_lts T p c) (he : 0 ≤ e ∧ e < 10) (hn : z_nm w P e v) (k1 : v = z_tw T p c → K 1 w) (k0 : v ≠ z_tw T p c → K 0 w) : z_CI mX3_isNamed [z_r P, z_i e, z_r 140, z_i p, z_i c] sh w K := by
  have hA : z_isTap sh 140 := hT.2.2.2.2.2.2.2.1
  obtain ⟨l0, l1, l2, l3⟩ := hl
  obtain ⟨d, d1, d5, n1, n2, n3⟩ := hn
  have h0 := h.1
  have inj := z_word_inj (f := fun i => w (P + 1) (e * 5 + i)) (g := fun i => T.2 (p + i)) (c := d) (d := c.toNat) d1 d5 (by omega) (by omega) n2 (fun i i0 i1 => l3 i i0 (by omega))
  have body : ∀ (i : Int) (Q : Option z_V → z_S → Prop), 0 ≤ i → i < c → (d : Int) = c → (w (P + 1) (e * 5 + i) = T.2 (p + i) → z_Sem mX3_isNamed (sh.length, 0) 16 [(0, z_r P), (1, z_i e), (2, z_r 140), (3, z_i p), (4, z_i c), (5, z_i (i + 1))] [] (sh, w) Q) → (w (P + 1) (e * 5 + i) ≠ T.2 (p + i) → Q (some (z_i 0)) (sh, w)) → z_Sem mX3_isNamed (sh.length, 0) 16 [(0, z_r P), (1, z_i e), (2, z_r 140), (3, z_i p), (4, z_i c), (5, z_i i)] [] (sh, w) Q := by
    intro i Q i0 i1 ec g1 g0
    obtain ⟨b1, b2⟩ := h.at (i := p + i) (by omega) (by omega)
    refine t_X3_isNamed_16 hP hA ⟨fun q => absurd q (by omega), fun _ => ?_⟩
    rw [b1]
    exact ⟨⟨⟨by omega, by omega⟩, ⟨by omega, by omega⟩, ⟨by omega, by omega⟩, True.intro⟩, ⟨by omega, by omega⟩, b2, fun q => ⟨⟨by omega, by omega⟩, g1 q⟩, fun q => g0 q⟩
  refine z_CIi (t_X3_isNamed hP hA ⟨he, fun ec => ?_, fun ec => ⟨_, _, rfl, rfl, k0 (fun q => ec (by rw [n3] at q; have := (inj.mp q).1; omega))⟩⟩)
  rw [n1] at ec
  by_cases q : v = z_tw T p c
  · have all := (inj.mp (n3.symm.trans q)).2
    refine z_for (n := c) (i0 := 0) (fun i u => z_Sem mX3_isNamed (sh.length, 0) 16 [(0, z_r P), (1, z_i e), (2, z_r 140), (3, z_i p), (4, z_i c), (5, z_i i)] [] (sh, u) _) (fun i u => u = w) (by omega) rfl ?_ ?_
    · rintro u rfl
      exact t_X3_isNamed_16 hP hA ⟨fun _ => ⟨_, _, rfl, rfl, k1 q⟩, fun q => absurd (Int.le_refl _) q⟩
    · rintro i u i0 i1 rfl kk
      exact body i _ i0 i1 ec (fun _ => kk u rfl) (fun q => absurd (all i i0 (by omega)) q)
  · have hf := z_fi1_is (p := fun i => w (P + 1) (e * 5 + i) ≠ T.2 (p + i)) (n := c) (by omega)
    rcases hf with ⟨-, no⟩ | ⟨j0, j1, j2, j3⟩
    · exact absurd (n3.trans (inj.mpr ⟨by omega, fun i i0 i1 => Classical.byContradiction (no i i0 (by omega))⟩)) q
    · refine z_for (n := z_fi1 (fun i => w (P + 1) (e * 5 + i) ≠ T.2 (p + i)) c) (i0 := 0) (fun i u => z_Sem mX3_isNamed (sh.length, 0) 16 [(0, z_r P), (1, z_i e), (2, z_r 140), (3, z_i p), (4, z_i c), (5, z_i i)] [] (sh, u) _) (fun i u => u = w) j0 rfl ?_ ?_
      · rintro u rfl
        exact body _ _ j0 j1 ec (fun q => absurd q j2) (fun _ => ⟨_, _, rfl, rfl, k0 q⟩)
      · rintro i u i0 i1 rfl kk
        exact body i _ i0 (by omega) ec (fun _ => kk u rfl) (fun q => absurd q (j3 i i0 i1))
/-- the event with a name, or -2 -/
noncomputable def z_nmd (A : z_A) (v : Int) : Int := z_fi1 (fun e => A 9 e = v) (A 1 0)
theorem c_findEvent {sh : List z_C} {w : z_Mm} {P : Nat} {A : z_A} {T : z_T} {p c : Int} {K : Int → z_Mm → Prop} (hT : z_isTG sh 0) (hP : z_isPla sh P) (h : z_tc w T) (hl : z_lts T p c) (hA : z_okg A) (hp : z_pr w P A) (k : K (if z_nmd A (z_tw T p c) = -2 then -1 else z_nmd A (z_tw T p c)) w) : z_CI mX3_findEvent [z_r P, z_r 140, z_i p, z_i c] sh w K := by
  have hTa : z_isTap sh 140 := hT.2.2.2.2.2.2.2.1
  have r1 := hA.2.1
  have p10 : w P 10 = A 1 0 := hp.1.2.1
  have hf := z_fi1_is (p := fun e => A 9 e = z_tw T p c) (n := A 1 0) (by omega)
  refine z_CIi (t_X3_findEvent hP hTa ?_)
  rcases hf with ⟨e2, no⟩ | ⟨j0, j1, j2, j3⟩
  · have e2' : z_nmd A (z_tw T p c) = -2 := e2
    rw [if_pos e2'] at k
    refine z_for (n := A 1 0) (i0 := 0) (fun i u => z_Sem mX3_findEvent (sh.length, 0) 3 [(0, z_r P), (1, z_r 140), (2, z_i p), (3, z_i c), (4, z_i i)] [] (sh, u) _) (fun i u => u = w) (by omega) rfl ?_ ?_
    · rintro u rfl
      exact t_X3_findEvent_3 hP hTa ⟨fun _ => ⟨_, _, rfl, rfl, k⟩, fun q => absurd (Int.le_of_eq p10) q⟩
    · rintro i u i0 i1 rfl kk
      refine t_X3_findEvent_3 hP hTa ⟨fun q => absurd q (by omega), fun _ => ?_⟩
      exact c_isNamed hT hP h hl ⟨i0, by omega⟩ (hp.2.1 i i0 i1) (fun q => absurd q (no i i0 i1)) (fun _ => ⟨fun _ => ⟨⟨by omega, by omega⟩, kk u rfl⟩, fun q => absurd rfl q⟩)
  · have hn : z_nmd A (z_tw T p c) = z_fi1 (fun e => A 9 e = z_tw T p c) (A 1 0) := rfl
    rw [if_neg (by omega)] at k
    refine z_for (n := z_nmd A (z_tw T p c)) (i0 := 0) (fun i u => z_Sem mX3_findEvent (sh.length, 0) 3 [(0, z_r P), (1, z_r 140), (2, z_i p), (3, z_i c), (4, z_i i)] [] (sh, u) _) (fun i u => u = w) (by omega) rfl ?_ ?_
    · rintro u rfl
      refine t_X3_findEvent_3 hP hTa ⟨fun q => absurd q (by omega), fun _ => ?_⟩
      exact c_isNamed hT hP h hl ⟨by omega, by omega⟩ (hp.2.1 _ (by omega) (by omega)) (fun _ => ⟨fun q => absurd q (by decide), fun _ => ⟨_, _, rfl, rfl, k⟩⟩) (fun q => absurd j2 q)
    · rintro i u i0 i1 rfl kk
      refine t_X3_findEvent_3 hP hTa ⟨fun q => absurd q (by omega), fun _ => ?_⟩
      exact c_isNamed hT hP h hl ⟨i0, by omega⟩ (hp.2.1 i i0 (by omega)) (fun q => absurd q (j3 i i0 (by omega))) (fun _ => ⟨fun _ => ⟨⟨by omega, by omega⟩, kk u rfl⟩, fun q => absurd rfl q⟩)
/-- the class names an event -/
theorem c_nameEvent {sh : List z_C} {w : z_Mm} {P : Nat} {T : z_T} {p c e : Int} {K : z_Mm → Prop} (hT : z_isTG sh 0) (hP : z_isPla sh P) (hfar : P + 2 < 140 ∨ 141 < P) (h : z_tc w T) (hl : z_lts T p c) (he : 0 ≤ e ∧ e < 10)
    (k : ∀ w', z_nm w' P e (z_tw T p c) → (∀ a : Nat, a ≠ P + 1 → a ≠ P + 2 → w' a = w a) → (∀ j : Int, (j < 5 * e ∨ 5 * e + 5 ≤ j) → w' (P + 1) j = w (P + 1) j) → (∀ j : Int, j ≠ e → w' (P + 2) j = w (P + 2) j) → K w') : z_CV mX3_nameEvent [z_r P, z_i e, z_r 140, z_i p, z_i c] sh w K := by
  have hTa : z_isTap sh 140 := hT.2.2.2.2.2.2.2.1
  obtain ⟨l0, l1, l2, l3⟩ := hl
  have h0 := h.1
  refine z_CVi (t_X3_nameEvent hP hTa ?_)
  refine z_for (n := c) (i0 := 0) (fun i u => z_Sem mX3_nameEvent (sh.length, 0) 3 [(0, z_r P), (1, z_i e), (2, z_r 140), (3, z_i p), (4, z_i c), (5, z_i i)] [] (sh, u) _)
    (fun i u => (∀ a : Nat, a ≠ P + 1 → u a = w a) ∧ (∀ j : Int, (j < 5 * e ∨ 5 * e + 5 ≤ j) → u (P + 1) j = w (P + 1) j) ∧ ∀ j : Int, 0 ≤ j → j < i → u (P + 1) (e * 5 + j) = T.2 (p + j)) (by omega) ⟨fun _ _ => rfl, fun _ _ => rfl, fun j j0 j1 => absurd j1 (by omega)⟩ ?_ ?_
  · rintro u ⟨uf, uo, un⟩
    refine t_X3_nameEvent_3 hP hTa ⟨fun _ => ⟨he, fun w2 e2 => ⟨_, rfl, rfl, ?_⟩⟩, fun q => absurd (Int.le_refl _) q⟩
    rw [z_fmin, show min c 5 = c by omega] at e2
    have g1 : w2 (P + 1) = u (P + 1) := by rw [e2, z_Wf (by omega)]
    refine k w2 ⟨c.toNat, by omega, by omega, by rw [e2, z_W_same]; omega, fun i i0 i1 => ?_, ?_⟩ (fun a a1 a2 => by rw [e2, z_Wf a2, uf a a1]) (fun j hj => by rw [g1]; exact uo j hj) (fun j hj => by rw [e2, z_W_ne (Or.inr hj), uf (P + 2) (by omega)])
    · rw [g1, un i i0 (by omega)]
      exact l3 i i0 (by omega)
    · refine z_word_congr (fun i i0 i1 => ?_)
      rw [g1, un i i0 (by omega)]
  · rintro i u i0 i1 ⟨uf, uo, un⟩ kk
    have hu : z_tc u T := h.fr (uf 140 (by omega)) (uf 141 (by omega))
    obtain ⟨b1, b2⟩ := hu.at (i := p + i) (by omega) (by omega)
    refine t_X3_nameEvent_3 hP hTa ⟨fun q => absurd q (by omega), fun _ => ⟨fun q => absurd q (by omega), fun _ => ?_⟩⟩
    rw [b1]
    refine ⟨⟨by omega, by omega⟩, ⟨by omega, by omega⟩, ⟨by omega, by omega⟩, b2, ⟨by omega, by omega⟩, fun w11 e11 => ⟨⟨by omega, by omega⟩, kk w11 ⟨fun a ha => by rw [e11, z_Wf ha, uf a ha], fun j hj => by rw [e11, z_W_ne (Or.inr (by omega))]; exact uo j hj, fun j j0 j1 => ?_⟩⟩⟩
    rw [e11]
    by_cases q : j = i
    · subst q; rw [z_W_same]
    · rw [z_W_ne (Or.inr (by omega))]; exact un j j0 (by omega)
/-- the name that is the whole tape, or 0 -/
noncomputable def z_tn0 (T : z_T) : Int := @ite _ (z_lts T 0 T.1 ∧ ¬ z_kwp (z_tw T 0 T.1)) (Classical.propDecidable _) (z_tw T 0 T.1) 0
theorem z_tw_R {T : z_T} {p c : Int} (hl : z_lts T p c) : 1 ≤ z_tw T p c ∧ z_tw T p c < 33554432 := by
  obtain ⟨l0, l1, l2, l3⟩ := hl
  exact (z_wdl (f := fun i => T.2 (p + i)) (c := c.toNat) (by omega) (by omega) (fun i i0 i1 => l3 i i0 (by omega))).1
theorem z_tw_vw {T : z_T} {p c : Int} (hl : z_lts T p c) : z_vw (z_tw T p c) := by
  obtain ⟨l0, l1, l2, l3⟩ := hl
  exact ⟨c.toNat, fun i => T.2 (p + i), by omega, by omega, fun i i0 i1 => l3 i i0 (by omega), rfl⟩
theorem z_tw_R4 {f : Int → Int} : ∀ k : Nat, k ≤ 5 → (∀ i : Int, 0 ≤ i → i < k → 97 ≤ f i ∧ f i ≤ 122) → 0 ≤ z_word f k ∧ z_word f k < 33554432
  | 0, _, _ => ⟨Int.le_refl _, by show (0 : Int) < _; omega⟩
  | k + 1, h, hf => by
    have := (z_wdl (f := f) (c := k + 1) (by omega) h hf).1
    omega
