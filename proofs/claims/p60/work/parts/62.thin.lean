/-! THIN -/
/-- v is the first needless gap from s on, or -2 -/
def z_fnl (A : z_A) (s v : Int) : Prop := (v = -2 ∧ ∀ h : Int, s ≤ h → h < A 2 0 → ¬ A 7 h = 0 → z_need A h) ∨ (s ≤ v ∧ v < A 2 0 ∧ ¬ A 7 v = 0 ∧ ¬ z_need A v ∧ ∀ h : Int, s ≤ h → h < v → ¬ A 7 h = 0 → z_need A h)
theorem z_fnl_u {A : z_A} {v u : Int} (h : z_fnl A 0 v) (h' : z_fnl A 0 u) : v = u := by
  rcases h with ⟨a, b⟩ | ⟨a, b, c, d, e⟩
  · rcases h' with ⟨a', b'⟩ | ⟨a', b', c', d', e'⟩
    · rw [a, a']
    · exact absurd (b u a' b' c') d'
  · rcases h' with ⟨a', b'⟩ | ⟨a', b', c', d', e'⟩
    · exact absurd (b' v a b c) d
    · rcases Int.lt_trichotomy v u with q | q | q
      · exact absurd (e' v a q c) d
      · exact q
      · exact absurd (e u a' q c') d'
noncomputable def z_fn (A : z_A) : Int := Classical.epsilon (fun v => z_fnl A 0 v)
theorem z_fn_of {A : z_A} {v : Int} (h : z_fnl A 0 v) : z_fn A = v := z_fnl_u (Classical.epsilon_spec (p := fun v => z_fnl A 0 v) ⟨v, h⟩) h
noncomputable def z_thinN : Nat → z_A → z_A
  | 0, A => A
  | k + 1, A => if z_fn A = -2 then A else z_thinN k (z_cut A (z_fn A))
theorem z_cut_need {A : z_A} {g h : Int} (h0 : h < g) (hn : z_need A h) : z_need (z_cut A g) h := by
  obtain ⟨h7, x, ⟨f1, f2, f3⟩, hx⟩ := hn
  have ea : ∀ h : Int, h < g → (z_Fg (z_cut A g) h x ↔ z_Fg A h x) := fun h hh => z_Fg_eq (z_cut_a (by omega) hh) (z_cut_a (by omega) hh) (z_cut_a (by omega) hh) (z_cut_a (by omega) hh)
  have eb : ∀ h : Int, ¬ h < g → (z_Fg (z_cut A g) h x ↔ z_Fg A (h + 1) x) := fun h hh => z_Fg_eq (z_cut_b (by omega) hh) (z_cut_b (by omega) hh) (z_cut_b (by omega) hh) (z_cut_b (by omega) hh)
  refine ⟨by rw [z_cut_a (by omega) h0]; exact h7, x, ?_, fun c => hx ((ea h h0).mp c)⟩
  unfold z_F
  rw [z_cut_2, z_cut_lt (by omega), z_cut_lt (by omega)]
  refine ⟨fun i i0 i1 i2 i3 => ?_, f2, fun e e0 e1 e2 => ?_⟩
  · by_cases q : i < g
    · rw [z_cut_a (by omega) q] at i2
      exact (ea i q).mpr (f1 i i0 (by omega) i2 i3)
    · rw [z_cut_b (by omega) q] at i2
      exact (eb i q).mpr (f1 (i + 1) (by omega) (by omega) i2 (by omega))
  · rw [z_cut_lt (by omega)] at e2 ⊢
    exact f3 e e0 e1 e2
theorem z_cut_fnl {A : z_A} {g v : Int} (g1 : g < A 2 0) (h : z_fnl A 0 g) (hg : g ≠ -2) (h' : z_fnl (z_cut A g) g v) : z_fnl (z_cut A g) 0 v := by
  rcases h with ⟨a, -⟩ | ⟨a, b, c, d, e⟩
  · exact absurd a hg
  · have lo : ∀ i : Int, 0 ≤ i → i < g → ¬ z_cut A g 7 i = 0 → z_need (z_cut A g) i := fun i i0 i1 i2 => by
      rw [z_cut_a (by omega) i1] at i2
      exact z_cut_need i1 (e i i0 i1 i2)
    rcases h' with ⟨p, q⟩ | ⟨p, q, r, s, t⟩
    · refine Or.inl ⟨p, fun i i0 i1 i2 => ?_⟩
      by_cases c' : i < g
      · exact lo i i0 c' i2
      · exact q i (by omega) i1 i2
    · refine Or.inr ⟨by omega, q, r, s, fun i i0 i1 i2 => ?_⟩
      by_cases c' : i < g
      · exact lo i i0 c' i2
      · exact t i (by omega) i1 i2
theorem z_cut_same {A : z_A} {g : Int} (g0 : 0 ≤ g) (g1 : g < A 2 0) (h7 : ¬ A 7 g = 0) (hn : ¬ z_need A g) (x : Int → Int) : z_F (z_cut A g) (-1) x ↔ z_F A (-1) x := by
  rw [z_F_cut g0 g1, z_F_g g0 g1]
  exact ⟨fun h => ⟨h, fun _ => Classical.byContradiction fun c => hn ⟨h7, x, h, c⟩⟩, fun h => h.1⟩
theorem z_nb.cut {w : z_Mm} {A : z_A} {g : Int} (h : z_nb w A) (g0 : 0 ≤ g) (g1 : g < A 2 0) (h7 : ¬ A 7 g = 0) (hn : ¬ z_need A g) : z_nb w (z_cut A g) := by
  obtain ⟨S, h1, h2, h3⟩ := h
  unfold z_nb
  rw [z_cut_lt (ch := 1) (by omega)]
  exact ⟨S, h1, fun x => by rw [z_cut_same g0 g1 h7 hn, h2], h3⟩
theorem c_firstNeedless {sh : List z_C} {w : z_Mm} {A : z_A} {s : Int} {K : Int → z_Mm → Prop} (hT : z_isTG sh 0) (hA : z_okg A) (hb : z_bears A) (hp : z_pg w 1 A) (hn : z_nb w A) (s0 : 0 ≤ s) (s1 : s ≤ A 2 0)
    (k : ∀ v w', z_fnl A s v → (∀ a : Nat, (a < 18 ∨ 23 < a) → w' a = w a) → K v w') : z_CI mX8_firstNeedless [z_r 0, z_i s] sh w K := by
  have r2 := hA.2.2.1
  have p11 : w 1 11 = A 2 0 := hp.2.2.1
  refine z_CIi (t_X8_firstNeedless hT ?_)
  refine z_for (n := A 2 0) (i0 := s) (fun i v => z_Sem mX8_firstNeedless (sh.length, 0) 2 [(0, z_r 0), (2, z_i i)] [] (sh, v) _)
    (fun i v => (∀ a : Nat, (a < 18 ∨ 23 < a) → v a = w a) ∧ ∀ h : Int, s ≤ h → h < i → ¬ A 7 h = 0 → z_need A h) s1 ⟨fun _ _ => rfl, fun h h0 h1 => absurd h1 (by omega)⟩ ?_ ?_
  · rintro v ⟨vf, vn⟩
    refine t_X8_firstNeedless_2 hT ⟨fun _ => ⟨_, _, rfl, rfl, k _ v (Or.inl ⟨rfl, vn⟩) vf⟩, fun c => absurd (show v 1 11 ≤ A 2 0 by rw [vf 1 (by omega), p11]; exact Int.le_refl _) c⟩
  · rintro i v i0 i1 ⟨vf, vn⟩ kk
    have hpv : z_pg v 1 A := hp.fr (fun a a0 a1 => vf a (by omega))
    have hnv : z_nb v A := hn.fr (vf 12 (by omega)) (vf 17 (by omega))
    have e11 : v 1 11 = A 2 0 := by rw [vf 1 (by omega), p11]
    have e9 : v 9 i = A 7 i := (hpv.2.2.2.1 i (by omega) i1).2.2.2.2
    refine t_X8_firstNeedless_2 hT ⟨fun c => absurd c (by omega), fun _ => ⟨⟨by omega, by omega⟩, fun c => ⟨⟨by omega, by omega⟩, kk v ⟨vf, fun h h0 h1 h2 => ?_⟩⟩, fun c => ?_⟩⟩
    · by_cases q : h = i
      · rw [q] at h2
        exact absurd (e9.symm.trans c) h2
      · exact vn h h0 (by omega) h2
    · rw [e9] at c
      refine c_isNeeded hT hA hb hpv hnv (by omega) i1 (fun hq w5 f5 => ⟨fun c2 => absurd c2 (by decide), fun _ => ⟨⟨by omega, by omega⟩, kk w5 ⟨fun a ha => by rw [f5 a ha, vf a ha], fun h h0 h1 h2 => ?_⟩⟩⟩)
        (fun hq w5 f5 => ⟨fun _ => ⟨_, _, rfl, rfl, k _ w5 (Or.inr ⟨i0, i1, c, hq, vn⟩) (fun a ha => by rw [f5 a ha, vf a ha])⟩, fun c2 => absurd rfl c2⟩)
      by_cases q : h = i
      · rw [q]; exact hq
      · exact vn h h0 (by omega) h2
/-- THIN -/
noncomputable def z_dthin (A : z_A) (H : List z_A) : Int × z_A × List z_A :=
  if z_fn A = -2 then (-2, A, H) else (A 2 0 - z_thinN 24 A 2 0, z_note (z_thinN 24 A) 12 (A 2 0 - z_thinN 24 A 2 0) (z_thinN 24 A 2 0), z_push H A)
theorem z_fnl_in {A : z_A} {v : Int} (h : z_fnl A 0 v) (hv : v ≠ -2) : 0 ≤ v ∧ v < A 2 0 ∧ ¬ A 7 v = 0 ∧ ¬ z_need A v := by
  rcases h with ⟨a, -⟩ | ⟨a, b, c, d, -⟩
  · exact absurd a hv
  · exact ⟨a, b, c, d⟩
theorem c_thin {sh : List z_C} {w : z_Mm} {A : z_A} {H : List z_A} {K : Int → z_Mm → Prop} (hT : z_isTG sh 0) (hs : z_cs w A H)
    (k : ∀ w', z_cs w' (z_dthin A H).2.1 (z_dthin A H).2.2 → z_frC w w' → K (z_dthin A H).1 w') : z_CI mX8_thin [z_r 0] sh w K := by
  obtain ⟨hA, hp, hn, hok, hh⟩ := id hs
  have r2 := hA.1.2.2.1
  unfold z_dthin at k
  refine z_CIi (t_X8_thin hT ?_)
  refine c_firstNeedless hT hA.1 hA.2.1 hp.1 (hn.nb hA.1 hA.2.1) (Int.le_refl _) r2.1 (fun v w1 hv f1 => ?_)
  have ev := z_fn_of hv
  rw [ev] at k
  have hs1 := hs.fr f1
  have fC1 : z_frC w w1 := fun a ha => f1 a (by omega)
  refine ⟨fun c => ?_, fun c => ?_⟩
  · rw [if_pos c] at k
    exact ⟨_, _, rfl, rfl, k w1 hs1 fC1⟩
  rw [if_neg c] at k
  refine c_rem hT hs1 (fun w4 q1 q2 q3 q4 q5 => ?_)
  intro y5 e5
  have ey : y5 = A 2 0 := e5.trans q1.1.2.2.1
  rw [ey]
  have fin : ∀ (u : z_Mm) (B : z_A), z_ok B → z_pr u 1 B → (∀ a : Nat, (a < 1 ∨ 23 < a) → u a = w4 a) → 0 ≤ A 2 0 - B 2 0 → B = z_thinN 24 A → z_R (A 2 0 - u 1 11) ∧ z_CV mX8_finish [z_r 0, z_i 12, z_i (A 2 0 - u 1 11), z_i (u 1 11)] sh u (fun w3 => ∃ (x : Int) (w' : z_Mm), some (z_i (A 2 0 - u 1 11)) = some (z_i x) ∧ (sh, w3) = (sh, w') ∧ K x w') := by
    intro u B hB hpB fu hge hBe
    have e11 : u 1 11 = B 2 0 := hpB.1.2.2.1
    have b2 := hB.1.2.2.1
    rw [e11]
    refine ⟨⟨by omega, by omega⟩, ?_⟩
    refine c_finish hT hB hpB (q2.fr (fun C hC => (q3 C hC).1) (fun a a0 a1 => fu a (by omega))) q3 (fun w' c1 c2 => ⟨_, _, rfl, rfl, ?_⟩)
    rw [hBe] at c1 ⊢
    exact k w' c1 (((fC1.trans q4).trans (fun a ha => fu a (by omega))).trans c2)
  have main : ∀ (m : Nat) (x3 : Int) (g : Int) (u : z_Mm) (B : z_A), (24 - x3).toNat = m → 0 ≤ x3 → x3 ≤ 24 → z_ok B → z_pr u 1 B → z_nb u B → z_fnl B 0 g → (∀ a : Nat, (a < 1 ∨ 23 < a) → u a = w4 a) → B 2 0 = A 2 0 - x3 → z_thinN m B = z_thinN 24 A →
      z_Sem mX8_thin (sh.length, 0) 36 [(0, z_r 0), (1, z_i g), (2, z_i (A 2 0)), (3, z_i x3)] [] (sh, u) (fun r σ => ∃ (x : Int) (w' : z_Mm), r = some (z_i x) ∧ σ = (sh, w') ∧ K x w') := by
    intro m
    induction m with
    | zero =>
      intro x3 g u B hm h0 h1 hB hpB hnB hg fu hB2 hBt
      exact t_X8_thin_36 hT ⟨fun _ => fin u B hB hpB fu (by omega) hBt, fun c => absurd (show 24 ≤ x3 by omega) c⟩
    | succ m ih =>
      intro x3 g u B hm h0 h1 hB hpB hnB hg fu hB2 hBt
      have eg := z_fn_of hg
      refine t_X8_thin_36 hT ⟨fun c => absurd c (by omega), fun _ => ⟨fun c => ?_, fun c => ?_⟩⟩
      · rw [z_thinN, eg, if_pos c] at hBt
        exact fin u B hB hpB fu (by omega) hBt
      · obtain ⟨g0, g1, g7, gn⟩ := z_fnl_in hg c
        rw [z_thinN, eg, if_neg c] at hBt
        have b2 := hB.1.2.2.1
        have hB' : z_ok (z_cut B g) := ⟨z_okg_cut hB.1 g0 g1, z_bears_cut g0 g1 hB.2.1, z_okn_cut hB.2.2⟩
        refine c_removeGap hT.2.1 hB.1 g0 g1 hpB (fun w7 p7 f7 => ?_)
        have hn7 : z_nb w7 (z_cut B g) := (hnB.fr (f7 12 (by omega)) (f7 17 (by omega))).cut g0 g1 g7 gn
        refine c_firstNeedless hT hB'.1 hB'.2.1 p7.1 hn7 g0 (by rw [z_cut_2]; omega) (fun v w8 hv f8 => ⟨⟨by omega, by omega⟩, ?_⟩)
        refine ih (x3 + 1) v w8 (z_cut B g) (by omega) (by omega) (by omega) hB' (p7.fr hB'.1 (fun a a0 a1 => f8 a (by omega))) (hn7.fr (f8 12 (by omega)) (f8 17 (by omega))) (z_cut_fnl g1 hg c hv) (fun a ha => by rw [f8 a (by omega), f7 a (by omega), fu a ha]) (by rw [z_cut_2]; omega) hBt
  exact main 24 0 v w4 A (by omega) (by omega) (by omega) hA q1 ((hn.nb hA.1 hA.2.1).fr (by rw [q5 12 (by omega), f1 12 (by omega)]) (by rw [q5 17 (by omega), f1 17 (by omega)])) hv (fun _ _ => rfl) (by omega) rfl
theorem z_thinN_st {A : z_A} : ∀ (m k : Nat) (A : z_A), z_okg A → z_bears A → (∀ B, z_okg B → z_bears B → ∃ v, z_fnl B 0 v) → A 2 0 ≤ m → A 2 0 ≤ k → z_thinN m A = z_thinN k A := by
  intro m
  induction m with
  | zero =>
    intro k B hB hb hex hm hk
    cases k with
    | zero => rfl
    | succ k =>
      obtain ⟨v, hv⟩ := hex B hB hb
      rw [z_thinN, z_thinN, z_fn_of hv]
      by_cases c : v = -2
      · rw [if_pos c]
      · obtain ⟨g0, g1, -, -⟩ := z_fnl_in hv c
        omega
  | succ m ih =>
    intro k B hB hb hex hm hk
    obtain ⟨v, hv⟩ := hex B hB hb
    cases k with
    | zero =>
      rw [z_thinN, z_thinN, z_fn_of hv]
      by_cases c : v = -2
      · rw [if_pos c]
      · obtain ⟨g0, g1, -, -⟩ := z_fnl_in hv c
        omega
    | succ k =>
      rw [z_thinN, z_thinN, z_fn_of hv]
      by_cases c : v = -2
      · rw [if_pos c, if_pos c]
      · obtain ⟨g0, g1, -, -⟩ := z_fnl_in hv c
        rw [if_neg c, if_neg c]
        exact ih k _ (z_okg_cut hB g0 g1) (z_bears_cut g0 g1 hb) hex (by rw [z_cut_2]; omega) (by rw [z_cut_2]; omega)
