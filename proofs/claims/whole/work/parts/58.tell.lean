/-! TELL and DROP -/
theorem m_comes {sh : List z_C} {w : z_Mm} {A : z_A} {one oth kd n on : Int} {K : Int → z_Mm → Prop} (hM : z_isMod sh 161) (hA : z_okg A) (h24 : A 2 0 < 24) (hm : z_mr (w 163) A)
    (k : ∀ w', z_mr (w' 163) (z_add A one oth kd n on) → (∀ c : Nat, c ≠ 163 → w' c = w c) → K (A 2 0) w') : z_CI mX9_comes [z_r 161, z_i one, z_i oth, z_i kd, z_i n, z_i on] sh w K := by
  have r1 := hA.2.1
  have r2 := hA.2.2.1
  have p2 : w 163 2 = A 2 0 := hm.1.2.2.1
  refine z_CIi (t_X9_comes hM ?_)
  intro y1 e1
  rw [p2] at e1
  rw [e1]
  refine m_puts hM ⟨by omega, by omega⟩ (by omega) ?_
  refine m_puts hM ⟨by omega, by omega⟩ (by omega) ?_
  refine m_puts hM ⟨by omega, by omega⟩ (by omega) ?_
  refine m_puts hM ⟨by omega, by omega⟩ (by omega) ?_
  refine m_puts hM ⟨by omega, by omega⟩ (by omega) ?_
  obtain ⟨u, hu⟩ : ∃ u, u = z_W (z_W (z_W (z_W (z_W w 163 (13 + 5 * A 2 0 + 0) one) 163 (13 + 5 * A 2 0 + 1) oth) 163 (13 + 5 * A 2 0 + 2) kd) 163 (13 + 5 * A 2 0 + 3) n) 163 (13 + 5 * A 2 0 + 4) on := ⟨_, rfl⟩
  rw [← hu]
  have uo : ∀ j : Int, (j < 13 + 5 * A 2 0 ∨ 13 + 5 * A 2 0 + 5 ≤ j) → u 163 j = w 163 j := fun j hj => by
    rw [hu, z_W_ne (Or.inr (by omega)), z_W_ne (Or.inr (by omega)), z_W_ne (Or.inr (by omega)), z_W_ne (Or.inr (by omega)), z_W_ne (Or.inr (by omega))]
  have u0 : u 163 (13 + 5 * A 2 0 + 0) = one := by rw [hu, z_W_ne (Or.inr (by omega)), z_W_ne (Or.inr (by omega)), z_W_ne (Or.inr (by omega)), z_W_ne (Or.inr (by omega)), z_W_same]
  have u1 : u 163 (13 + 5 * A 2 0 + 1) = oth := by rw [hu, z_W_ne (Or.inr (by omega)), z_W_ne (Or.inr (by omega)), z_W_ne (Or.inr (by omega)), z_W_same]
  have u2 : u 163 (13 + 5 * A 2 0 + 2) = kd := by rw [hu, z_W_ne (Or.inr (by omega)), z_W_ne (Or.inr (by omega)), z_W_same]
  have u3 : u 163 (13 + 5 * A 2 0 + 3) = n := by rw [hu, z_W_ne (Or.inr (by omega)), z_W_same]
  have u4 : u 163 (13 + 5 * A 2 0 + 4) = on := by rw [hu, z_W_same]
  have uf : ∀ c : Nat, c ≠ 163 → u c = w c := fun c hc => by rw [hu, z_Wf hc, z_Wf hc, z_Wf hc, z_Wf hc, z_Wf hc]
  rw [uo 2 (by omega), p2]
  refine ⟨⟨by omega, by omega⟩, fun w8 e8 => ⟨_, w8, rfl, rfl, k w8 ?_ (fun c hc => by rw [e8, z_Wf hc, uf c hc])⟩⟩
  have o8 : ∀ j : Int, j ≠ 2 → w8 163 j = u 163 j := fun j hj => by rw [e8, z_W_ne (Or.inr hj)]
  obtain ⟨n3, n4, n5, n6, n7⟩ := z_add_new (A := A) (one := one) (oth := oth) (kd := kd) (n := n) (on := on)
  obtain ⟨⟨h1, h2, h3, h4, h5⟩, h6, h7, h8, h9⟩ := hm
  refine ⟨⟨?_, ?_, ?_, fun g g0 g1 => ?_, fun e e0 e1 => ?_⟩, fun e e0 e1 => ?_, by rw [z_add_lt (by omega)]; exact h7, ?_, fun i i0 i1 => ?_⟩
  · rw [o8 0 (by decide), uo 0 (by omega), z_add_lt (by omega)]; exact h1
  · rw [o8 1 (by decide), uo 1 (by omega), z_add_lt (by omega)]; exact h2
  · rw [e8, z_W_same, z_add_2]
  · rw [z_add_2] at g1
    rw [o8 _ (by omega), o8 _ (by omega), o8 _ (by omega), o8 _ (by omega), o8 _ (by omega)]
    by_cases q : g = A 2 0
    · rw [q, n3, n4, n5, n6, n7]
      exact ⟨u0, u1, u2, u3, u4⟩
    · rw [uo _ (by omega), uo _ (by omega), uo _ (by omega), uo _ (by omega), uo _ (by omega), z_add_old (by omega) q, z_add_old (by omega) q, z_add_old (by omega) q, z_add_old (by omega) q, z_add_old (by omega) q]
      exact h4 g g0 (by omega)
  · rw [z_add_lt (by omega)] at e1
    rw [o8 _ (by omega), uo _ (by omega), z_add_lt (by omega)]
    exact h5 e e0 e1
  · rw [z_add_lt (by omega)] at e1
    rw [o8 _ (by omega), uo _ (by omega), z_add_lt (by omega)]
    exact h6 e e0 e1
  · rw [o8 _ (by omega), uo _ (by omega), z_add_lt (by omega)]
    exact h8
  · rw [z_add_lt (by omega)] at i1
    rw [o8 _ (by omega), o8 _ (by omega), o8 _ (by omega), uo _ (by omega), uo _ (by omega), uo _ (by omega), z_add_lt (by omega), z_add_lt (by omega), z_add_lt (by omega)]
    exact h9 i i0 i1
theorem m_drops {sh : List z_C} {w : z_Mm} {A : z_A} {g : Int} {K : z_Mm → Prop} (hM : z_isMod sh 161) (hA : z_okg A) (g0 : 0 ≤ g) (g1 : g < A 2 0) (hm : z_mr (w 163) A)
    (k : ∀ w', z_mr (w' 163) (z_cut A g) → (∀ c : Nat, c ≠ 163 → w' c = w c) → K w') : z_CV mX9_drops [z_r 161, z_i g] sh w K := by
  have r1 := hA.2.1
  have r2 := hA.2.2.1
  have p2 : w 163 2 = A 2 0 := hm.1.2.2.1
  refine z_CVi (t_X9_drops hM ?_)
  refine z_for (n := A 2 0 - 1) (i0 := g) (fun i v => z_Sem mX9_drops (sh.length, 0) 2 [(0, z_r 161), (2, z_i i)] [] (sh, v) _)
    (fun i v => (∀ c : Nat, c ≠ 163 → v c = w c) ∧ ∀ j : Int, (13 + 5 * g ≤ j → j < 13 + 5 * i → v 163 j = w 163 (j + 5)) ∧ ((j < 13 + 5 * g ∨ 13 + 5 * i ≤ j) → v 163 j = w 163 j))
    (by omega) ⟨fun _ _ => rfl, fun j => ⟨fun a b => absurd b (by omega), fun _ => rfl⟩⟩ ?_ ?_
  · rintro v ⟨vf, vd⟩
    have v2 : v 163 2 = A 2 0 := by rw [(vd 2).2 (by omega), p2]
    refine t_X9_drops_2 hM ⟨⟨by omega, by omega⟩, fun _ => ?_, fun c => absurd (show v 163 2 ≤ A 2 0 - 1 + 1 by omega) c⟩
    rw [v2]
    refine ⟨⟨by omega, by omega⟩, fun w4 e4 => ⟨w4, rfl, rfl, k w4 ?_ (fun a ha => by rw [e4, z_Wf ha, vf a ha])⟩⟩
    have o4 : ∀ j : Int, j ≠ 2 → w4 163 j = v 163 j := fun j hj => by rw [e4, z_W_ne (Or.inr hj)]
    have keep : ∀ j : Int, j ≠ 2 → (j < 13 + 5 * g ∨ 13 + 5 * (A 2 0 - 1) ≤ j) → w4 163 j = w 163 j := fun j h1 h2 => by rw [o4 j h1, (vd j).2 h2]
    have shift : ∀ j : Int, 13 + 5 * g ≤ j → j < 13 + 5 * (A 2 0 - 1) → w4 163 j = w 163 (j + 5) := fun j h1 h2 => by rw [o4 j (by omega), (vd j).1 h1 h2]
    obtain ⟨⟨h1, h2, h3, h4, h5⟩, h6, h7, h8, h9⟩ := hm
    refine ⟨⟨?_, ?_, ?_, fun h h0 hh1 => ?_, fun e e0 e1 => ?_⟩, fun e e0 e1 => ?_, by rw [z_cut_lt (by omega)]; exact h7, ?_, fun i i0 i1 => ?_⟩
    · rw [keep 0 (by decide) (by omega), z_cut_lt (by omega)]; exact h1
    · rw [keep 1 (by decide) (by omega), z_cut_lt (by omega)]; exact h2
    · rw [e4, z_W_same, z_cut_2]
    · rw [z_cut_2] at hh1
      by_cases q : h < g
      · rw [keep _ (by omega) (by omega), keep _ (by omega) (by omega), keep _ (by omega) (by omega), keep _ (by omega) (by omega), keep _ (by omega) (by omega), z_cut_a (by omega) q, z_cut_a (by omega) q, z_cut_a (by omega) q, z_cut_a (by omega) q, z_cut_a (by omega) q]
        exact h4 h h0 (by omega)
      · rw [shift _ (by omega) (by omega), shift _ (by omega) (by omega), shift _ (by omega) (by omega), shift _ (by omega) (by omega), shift _ (by omega) (by omega), z_cut_b (by omega) q, z_cut_b (by omega) q, z_cut_b (by omega) q, z_cut_b (by omega) q, z_cut_b (by omega) q]
        have := h4 (h + 1) (by omega) (by omega)
        rw [show 13 + 5 * (h + 1) + 0 = 13 + 5 * h + 0 + 5 by omega, show 13 + 5 * (h + 1) + 1 = 13 + 5 * h + 1 + 5 by omega, show 13 + 5 * (h + 1) + 2 = 13 + 5 * h + 2 + 5 by omega, show 13 + 5 * (h + 1) + 3 = 13 + 5 * h + 3 + 5 by omega, show 13 + 5 * (h + 1) + 4 = 13 + 5 * h + 4 + 5 by omega] at this
        exact this
    · rw [z_cut_lt (by omega)] at e1
      rw [keep _ (by omega) (by omega), z_cut_lt (by omega)]
      exact h5 e e0 e1
    · rw [z_cut_lt (by omega)] at e1
      rw [keep _ (by omega) (by omega), z_cut_lt (by omega)]
      exact h6 e e0 e1
    · rw [keep _ (by omega) (by omega), z_cut_lt (by omega)]
      exact h8
    · rw [z_cut_lt (by omega)] at i1
      rw [keep _ (by omega) (by omega), keep _ (by omega) (by omega), keep _ (by omega) (by omega), z_cut_lt (by omega), z_cut_lt (by omega), z_cut_lt (by omega)]
      exact h9 i i0 i1
  · rintro i v i0 i1 ⟨vf, vd⟩ kk
    have v2 : v 163 2 = A 2 0 := by rw [(vd 2).2 (by omega), p2]
    refine t_X9_drops_2 hM ⟨⟨by omega, by omega⟩, fun c => absurd c (by omega), fun _ => ?_⟩
    refine z_for (n := 5) (i0 := 0) (fun x u => z_Sem mX9_drops (sh.length, 0) 16 [(0, z_r 161), (2, z_i i), (3, z_i x)] [] (sh, u) _)
      (fun x u => (∀ c : Nat, c ≠ 163 → u c = w c) ∧ ∀ j : Int, (13 + 5 * g ≤ j → j < 13 + 5 * i + x → u 163 j = w 163 (j + 5)) ∧ ((j < 13 + 5 * g ∨ 13 + 5 * i + x ≤ j) → u 163 j = w 163 j))
      (by omega) ⟨vf, fun j => ⟨fun a b => (vd j).1 a (by omega), fun a => (vd j).2 (by omega)⟩⟩ ?_ ?_
    · rintro u ⟨uf, ud⟩
      refine t_X9_drops_16 hM ⟨fun _ => ⟨⟨by omega, by omega⟩, kk u ⟨uf, fun j => ⟨fun a b => (ud j).1 a (by omega), fun a => (ud j).2 (by omega)⟩⟩⟩, fun c => absurd (Int.le_refl _) c⟩
    · rintro x u x0 x1 ⟨uf, ud⟩ k2
      refine t_X9_drops_16 hM ⟨fun c => absurd c (by omega), fun _ => ⟨⟨by omega, by omega⟩, ⟨⟨by omega, by omega⟩, ⟨by omega, by omega⟩, ⟨by omega, by omega⟩, ⟨by omega, by omega⟩, True.intro⟩, ?_⟩⟩
      refine m_puts hM ⟨by omega, by omega⟩ ⟨by omega, by omega⟩ ⟨⟨by omega, by omega⟩, k2 _ ⟨fun c hc => by rw [z_Wf hc, uf c hc], fun j => ?_⟩⟩
      have ev : f_X9_of u (i + 1) x = w 163 (13 + 5 * i + x + 5) := by
        unfold f_X9_of
        rw [(ud _).2 (by omega)]
        congr 1
        omega
      rw [ev]
      by_cases q : j = 13 + 5 * i + x
      · rw [q, z_W_same]
        exact ⟨fun _ _ => rfl, fun c => absurd c (by omega)⟩
      · rw [z_W_ne (Or.inr q)]
        exact ⟨fun a b => (ud j).1 a (by omega), fun a => (ud j).2 (by omega)⟩
theorem z_tell_iff {A : z_A} {one oth kd n : Int} (hA : z_okg A) (hb : z_bears A) (h1 : 0 ≤ one ∧ one < A 1 0) (h2 : 0 ≤ oth ∧ oth < A 1 0) : z_bears (z_add A one oth kd n 1) ↔ 0 ≤ z_lr A (-1) one oth kd n := by
  have hsv := z_sv_A hA hb (-1)
  have key := z_ring1 (l' := if kd = 0 then n else -n) (l := 0) (z_sv_D hsv) (p := if kd = 0 then one else oth) (q := if kd = 0 then oth else one) (F0 := z_F A (-1)) (o := False)
    (by split <;> assumption) (by split <;> assumption) (fun x => by rw [z_F_iff hA]; exact ⟨fun h => ⟨h, fun f => f.elim⟩, fun h => h.1⟩)
  unfold z_lr
  rw [← key]
  have r2 := hA.2.2.1
  constructor
  · rintro ⟨x, hx⟩
    exact ⟨x, (z_F_add (by omega)).mp hx⟩
  · rintro ⟨x, hx⟩
    exact ⟨x, (z_F_add (by omega)).mpr hx⟩
/-- TELL -/
noncomputable def z_dtell (A : z_A) (H : List z_A) (one oth kd n : Int) : Int × z_A × List z_A :=
  if (0 ≤ one ∧ one < A 1 0) ∧ (0 ≤ oth ∧ oth < A 1 0) ∧ one ≠ oth ∧ (0 ≤ kd ∧ kd ≤ 1) ∧ (0 ≤ n ∧ n ≤ 999) then
    (if A 2 0 = 24 then (-4, A, H) else @ite _ (z_bears (z_add A one oth kd n 1)) (Classical.propDecidable _) (A 2 0, z_note (z_add A one oth kd n 1) 1 (A 2 0) n, z_push H A) (-5, z_note A 8 kd n, z_push H A))
  else (-1, A, H)
theorem z_f2e {w : z_Mm} {a b : Int} : f_X8_areTwoEvents w a b = 0 ↔ ¬ ((0 ≤ a ∧ a < w 1 10) ∧ (0 ≤ b ∧ b < w 1 10) ∧ a ≠ b) := by
  have ha := z_fev (w := w) (e := a)
  have hb := z_fev (w := w) (e := b)
  unfold f_X8_areTwoEvents
  split
  · omega
  · split
    · omega
    · split <;> omega
theorem z_fkd {w : z_Mm} {a : Int} : f_X8_isKind w a = 0 ↔ ¬ (0 ≤ a ∧ a ≤ 1) := by
  unfold f_X8_isKind
  split
  · omega
  · split <;> omega
theorem z_ftl {w : z_Mm} {one oth kd n : Int} : f_X8_isTellable w one oth kd n = 0 ↔ ¬ ((0 ≤ one ∧ one < w 1 10) ∧ (0 ≤ oth ∧ oth < w 1 10) ∧ one ≠ oth ∧ (0 ≤ kd ∧ kd ≤ 1) ∧ (0 ≤ n ∧ n ≤ 999)) := by
  have h1 := z_f2e (w := w) (a := one) (b := oth)
  have h2 := z_fkd (w := w) (a := kd)
  have h3 := z_fnum (w := w) (n := n)
  unfold f_X8_isTellable
  split
  · omega
  · split
    · omega
    · split <;> omega
theorem z_cs.note {w w' : z_Mm} {A : z_A} {H G : List z_A} {x y z : Int} (hs : z_cs w A H) (hp : z_pr w 1 A) (hl : z_lg w' 10 (z_note A x y z)) (hG : ∀ B ∈ G, z_ok B) (hh : z_hr w' G) (hf : ∀ a : Nat, a < 24 → a ≠ 10 → a ≠ 11 → w' a = w a) : z_cs w' (z_note A x y z) G := by
  obtain ⟨hA, -, hn, -, -⟩ := hs
  have e := z_eqg_note A x y z
  refine ⟨z_ok_note hA, ?_, e.net hA.1 (hn.fr (fun a a0 a1 => hf a (by omega) (by omega) (by omega))), hG, hh⟩
  obtain ⟨⟨p1, p2, p3, p4, p5⟩, p6, -, p8⟩ := hp
  refine ⟨⟨?_, ?_, ?_, fun g g0 g1 => ?_, fun i i0 i1 => ?_⟩, fun i i0 i1 => ?_, hl, fun g g0 g1 => ?_⟩
  · rw [hf 1 (by omega) (by omega) (by omega), p1]; exact (z_note_lt (by decide)).symm
  · rw [hf 1 (by omega) (by omega) (by omega), p2]; exact (z_note_lt (by decide)).symm
  · rw [hf 1 (by omega) (by omega) (by omega), p3]; exact (z_note_lt (by decide)).symm
  · rw [z_note_lt (by decide)] at g1
    rw [hf (1 + 4) (by omega) (by omega) (by omega), hf (1 + 5) (by omega) (by omega) (by omega), hf (1 + 6) (by omega) (by omega) (by omega), hf (1 + 7) (by omega) (by omega) (by omega), hf (1 + 8) (by omega) (by omega) (by omega), z_note_lt (by decide), z_note_lt (by decide), z_note_lt (by decide), z_note_lt (by decide), z_note_lt (by decide)]
    exact p4 g g0 g1
  · rw [z_note_lt (by decide)] at i1
    rw [hf (1 + 3) (by omega) (by omega) (by omega), z_note_lt (by decide)]
    exact p5 i i0 i1
  · rw [z_note_lt (by decide)] at i1
    obtain ⟨c, c1, c2, c3, c4, c5⟩ := p6 i i0 i1
    rw [z_note_lt (by decide)]
    exact ⟨c, c1, c2, by rw [hf (1 + 2) (by omega) (by omega) (by omega)]; exact c3, fun j j0 j1 => by rw [hf (1 + 1) (by omega) (by omega) (by omega)]; exact c4 j j0 j1, by rw [hf (1 + 1) (by omega) (by omega) (by omega)]; exact c5⟩
  · rw [hf (1 + 8) (by omega) (by omega) (by omega)]
    exact p8 g g0 g1
theorem c_tell {sh : List z_C} {w : z_Mm} {A : z_A} {H : List z_A} {one oth kd n : Int} {K : Int → z_Mm → Prop} (hT : z_isTG sh 0) (hs : z_cs w A H)
    (k : ∀ w', z_cs w' (z_dtell A H one oth kd n).2.1 (z_dtell A H one oth kd n).2.2 → z_frC w w' → K (z_dtell A H one oth kd n).1 w') : z_CI mX8_tell [z_r 0, z_i one, z_i oth, z_i kd, z_i n] sh w K := by
  obtain ⟨hA, hp, hn, hok, hh⟩ := id hs
  have hsv := z_sv_A hA.1 hA.2.1 (-1)
  have p10 : w 1 10 = A 1 0 := hp.1.2.1
  have p11 : w 1 11 = A 2 0 := hp.1.2.2.1
  have r2 := hA.1.2.2.1
  unfold z_dtell at k
  refine z_CIi (t_X8_tell hT ⟨fun c => ?_, fun c => ?_⟩)
  · rw [z_ftl, p10] at c
    rw [if_neg (by omega)] at k
    exact ⟨-1, w, rfl, rfl, k w hs z_frC.rf⟩
  have ht : (0 ≤ one ∧ one < A 1 0) ∧ (0 ≤ oth ∧ oth < A 1 0) ∧ one ≠ oth ∧ (0 ≤ kd ∧ kd ≤ 1) ∧ (0 ≤ n ∧ n ≤ 999) := by
    rw [z_ftl, p10] at c
    omega
  rw [if_pos ht] at k
  obtain ⟨t1, t2, t3, t4, t5⟩ := ht
  rw [p11]
  refine ⟨fun c2 => ?_, fun c2 => ?_⟩
  · rw [if_pos c2] at k
    exact ⟨-4, w, rfl, rfl, k w hs z_frC.rf⟩
  rw [if_neg c2] at k
  have hiff := z_tell_iff (kd := kd) (n := n) hA.1 hA.2.1 t1 t2
  refine c_rem hT hs (fun w3 q1 q2 q3 q4 q5 => ?_)
  have hn3 : z_net w3 12 A (-1) := hn.fr (fun a a0 a1 => q5 a (by omega))
  have hf : f_X2_leastRing w3 12 one oth kd n = z_lr A (-1) one oth kd n := z_flr hsv hn3.1 t1 t2
  refine ⟨z_slr hsv hn3.1 t1 t2 t5, fun c3 => ?_, fun c3 => ?_⟩
  · rw [hf] at c3
    have hb := hiff.mpr c3
    rw [if_pos hb] at k
    refine c_addGap hT.2.1 hA.1 (by omega) ⟨by decide, by decide⟩ q1 (fun w6 a1 a2 => ?_)
    have hB : z_ok (z_add A one oth kd n 1) := ⟨z_okg_add hA.1 (by omega) t1 t2 t3 t4 t5 (by omega), hb, z_okn_add hA.2.2⟩
    refine c_finish hT hB a1 (q2.fr (fun B hB => (q3 B hB).1) (fun a a0 a1 => a2 a (by omega))) q3 (fun w' c1 c2 => ?_)
    exact ⟨_, _, rfl, rfl, k w' c1 ((q4.trans (fun a ha => a2 a (by omega))).trans c2)⟩
  · rw [hf] at c3
    have nb : ¬ z_bears (z_add A one oth kd n 1) := fun hb => c3 (hiff.mp hb)
    rw [if_neg nb] at k
    have hL : z_isLog sh 10 := hT.2.1.2.2.2.2.2.2.2.2.2
    refine c_note hL q1.2.2.1 (x := 8) (y := kd) (z := n) (fun w9 l9 f9 => ?_)
    refine ⟨_, _, rfl, rfl, k w9 (hs.note hp l9 q3 (q2.fr (fun B hB => (q3 B hB).1) (fun a a0 a1 => f9 a (by omega) (by omega))) (fun a a0 a1 a2 => by rw [f9 a a1 a2, q5 a a0])) (q4.trans (fun a ha => f9 a (by omega) (by omega)))⟩
theorem z_fmT {w : z_Mm} {a b : Int} : f_X9_areTwo w a b = 0 ↔ ¬ ((0 ≤ a ∧ a < w 163 1) ∧ (0 ≤ b ∧ b < w 163 1) ∧ a ≠ b) := by
  have ha := z_fem (w := w) (e := a)
  have hb := z_fem (w := w) (e := b)
  unfold f_X9_areTwo
  split
  · omega
  · split
    · omega
    · split <;> omega
theorem z_fmN {w : z_Mm} {a b : Int} : f_X9_isN w a b = 0 ↔ ¬ ((0 ≤ a ∧ a ≤ 1) ∧ (0 ≤ b ∧ b ≤ 999)) := by
  have ha := z_fin (w := w) (x := a) (a := 0) (b := 1)
  have hb := z_fin (w := w) (x := b) (a := 0) (b := 999)
  unfold f_X9_isN
  split
  · omega
  · split <;> omega
theorem m_tell {sh : List z_C} {w : z_Mm} {A : z_A} {H : List z_A} {one oth kd n : Int} {K : Int → z_Mm → Prop} (hM : z_isMod sh 161) (hs : z_ms w A H) (hA : z_okg A) (hok : ∀ B ∈ H, z_ok B)
    (k : ∀ w', z_ms w' (z_dtell A H one oth kd n).2.1 (z_dtell A H one oth kd n).2.2 → z_frM w w' → K (z_dtell A H one oth kd n).1 w') : z_CI mX9_tell [z_r 161, z_i one, z_i oth, z_i kd, z_i n] sh w K := by
  have r1 := hA.2.1
  have r2 := hA.2.2.1
  have p1 : w 163 1 = A 1 0 := hs.1.1.2.1
  have p2 : w 163 2 = A 2 0 := hs.1.1.2.2.1
  unfold z_dtell at k
  refine z_CIi (t_X9_tell hM ⟨⟨z_sem (by omega), fun _ => ⟨z_sem (by omega), True.intro⟩, True.intro⟩, fun c => ?_, fun c => ⟨fun c2 => ?_, fun c2 => ?_⟩⟩)
  · rw [z_fmT, p1] at c
    rw [if_neg (by omega)] at k
    exact ⟨-1, w, rfl, rfl, k w hs z_frM.rf⟩
  · rw [z_fmN] at c2
    rw [if_neg (by omega)] at k
    exact ⟨-1, w, rfl, rfl, k w hs z_frM.rf⟩
  have ht : (0 ≤ one ∧ one < A 1 0) ∧ (0 ≤ oth ∧ oth < A 1 0) ∧ one ≠ oth ∧ (0 ≤ kd ∧ kd ≤ 1) ∧ (0 ≤ n ∧ n ≤ 999) := by
    rw [z_fmT, p1] at c
    rw [z_fmN] at c2
    omega
  rw [if_pos ht] at k
  obtain ⟨t1, t2, t3, t4, t5⟩ := ht
  rw [p2]
  refine ⟨fun c3 => ?_, fun c3 => ?_⟩
  · rw [if_pos c3] at k
    exact ⟨-4, w, rfl, rfl, k w hs z_frM.rf⟩
  rw [if_neg c3] at k
  refine m_beg hM hs hA (fun w5 q1 q2 q3 q4 => ?_)
  have hB : z_okg (z_add A one oth kd n 1) := z_okg_add hA (by omega) t1 t2 t3 t4 t5 (by omega)
  refine m_comes hM hA (by omega) q1.1 (fun w6 a1 a2 => ?_)
  have hf6 : z_frM w w6 := q3.trans (z_frM.of (a := 163) (by omega) a2)
  refine m_lays hM hB a1.1 (fun b w8 _ _ f8 hb _ => ?_)
  have e3 : w8 163 = w6 163 := f8.1 163 (by omega) (by omega)
  have e4 : w8 164 = w5 164 := by rw [f8.1 164 (by omega) (by omega), a2 164 (by omega)]
  have hh8 : z_hm w8 H := (q1.2.fr (by rw [a2 161 (by omega)]) (a2 165 (by omega))).fr (f8.2 8 (by omega)) (f8.1 165 (by omega) (by omega))
  rcases hb with ⟨b1, hb, -⟩ | ⟨b0, hb⟩
  · rw [if_pos hb] at k
    refine ⟨fun c => absurd c (by omega), fun _ => ?_⟩
    refine m_noted hM hh8 hok hA hB (by rw [e4]; exact q2) (by rw [e3]; exact a1) (hf6.trans f8.M) (fun w' h f => ⟨_, _, rfl, rfl, k w' h f⟩)
  · rw [if_neg hb] at k
    refine ⟨fun _ => ?_, fun c => absurd b0 c⟩
    refine m_fails hM (fun w14 g1 g2 => ?_)
    have hm14 : z_mr (w14 163) A := by
      rw [e4] at g1
      exact q2.cg hA g1
    refine m_noted hM (hh8.fr (by rw [g2 161 (by omega)]) (g2 165 (by omega))) hok hA hA (by rw [g2 164 (by omega), e4]; exact q2) hm14 ((hf6.trans f8.M).trans (z_frM.of (a := 163) (by omega) g2)) (fun w' h f => ⟨_, _, rfl, rfl, k w' h f⟩)
/-- DROP -/
def z_ddrop (A : z_A) (H : List z_A) (g : Int) : Int × z_A × List z_A :=
  if 0 ≤ g ∧ g < A 2 0 then (A 2 0 - 1, z_note (z_cut A g) 2 g (A 6 g), z_push H A) else (-1, A, H)
theorem z_cut_note {A : z_A} {g x y z : Int} : z_cut (z_note A x y z) g = z_note (z_cut A g) x y z := by
  funext ch i
  by_cases h : ch < 10
  · rw [z_note_lt h]
    unfold z_cut
    rw [z_note_lt (by decide), z_note_lt (by decide), z_note_lt h, z_note_lt h]
  · rw [z_cut_lt (by omega)]
    unfold z_note
    rw [z_cut_lt (by omega), z_cut_lt (by omega), z_cut_lt (by omega), z_cut_lt (by omega), z_cut_lt (by omega), z_cut_lt (by omega), z_cut_lt (by omega), z_cut_lt (by omega)]
theorem c_drop {sh : List z_C} {w : z_Mm} {A : z_A} {H : List z_A} {g : Int} {K : Int → z_Mm → Prop} (hT : z_isTG sh 0) (hs : z_cs w A H)
    (k : ∀ w', z_cs w' (z_ddrop A H g).2.1 (z_ddrop A H g).2.2 → z_frC w w' → K (z_ddrop A H g).1 w') : z_CI mX8_drop [z_r 0, z_i g] sh w K := by
  obtain ⟨hA, hp, hn, hok, hh⟩ := id hs
  have p11 : w 1 11 = A 2 0 := hp.1.2.2.1
  have r2 := hA.1.2.2.1
  unfold z_ddrop at k
  refine z_CIi (t_X8_drop hT ⟨fun c => ?_, fun c => ?_⟩)
  · rw [z_fgp, p11] at c
    rw [if_neg (by omega)] at k
    exact ⟨-1, w, rfl, rfl, k w hs z_frC.rf⟩
  have hg : 0 ≤ g ∧ g < A 2 0 := by
    rw [z_fgp, p11] at c
    omega
  rw [if_pos hg] at k
  refine ⟨⟨hg.1, by omega⟩, fun y3 e3 => ?_⟩
  have ey : y3 = A 6 g := e3.trans (hp.1.2.2.2.1 g hg.1 hg.2).2.2.2.1
  rw [ey]
  refine c_rem hT hs (fun w4 q1 q2 q3 q4 q5 => ?_)
  refine c_removeGap hT.2.1 hA.1 hg.1 hg.2 q1 (fun w5 a1 a2 => ?_)
  have hB : z_ok (z_cut A g) := ⟨z_okg_cut hA.1 hg.1 hg.2, z_bears_cut hg.1 hg.2 hA.2.1, z_okn_cut hA.2.2⟩
  refine c_finish hT hB a1 (q2.fr (fun B hB => (q3 B hB).1) (fun a a0 a1 => a2 a (by omega))) q3 (fun w' c1 c2 => ?_)
  have e11 : w' 1 11 = A 2 0 - 1 := by
    have := c1.2.1.1.2.2.1
    rw [z_note_lt (by decide), z_cut_2] at this
    exact this
  rw [e11]
  exact ⟨_, _, rfl, rfl, k w' c1 ((q4.trans (fun a ha => a2 a (by omega))).trans c2)⟩
theorem m_drop {sh : List z_C} {w : z_Mm} {A : z_A} {H : List z_A} {g : Int} {K : Int → z_Mm → Prop} (hM : z_isMod sh 161) (hs : z_ms w A H) (hA : z_okg A) (hok : ∀ B ∈ H, z_ok B)
    (k : ∀ w', z_ms w' (z_ddrop A H g).2.1 (z_ddrop A H g).2.2 → z_frM w w' → K (z_ddrop A H g).1 w') : z_CI mX9_drop [z_r 161, z_i g] sh w K := by
  have r2 := hA.2.2.1
  have p2 : w 163 2 = A 2 0 := hs.1.1.2.2.1
  unfold z_ddrop at k
  refine z_CIi (t_X9_drop hM ⟨z_sgm (by omega), fun c => ?_, fun c => ?_⟩)
  · rw [z_fgm, p2] at c
    rw [if_neg (by omega)] at k
    exact ⟨-1, w, rfl, rfl, k w hs z_frM.rf⟩
  have hg : 0 ≤ g ∧ g < A 2 0 := by
    rw [z_fgm, p2] at c
    omega
  rw [if_pos hg] at k
  refine m_beg hM hs hA (fun w3 q1 q2 q3 q4 => ?_)
  have e6 : f_X9_of w3 g 3 = A 6 g := by
    unfold f_X9_of
    rw [q4]
    exact (hs.1.1.2.2.2.1 g hg.1 hg.2).2.2.2.1
  rw [e6]
  refine ⟨⟨⟨by omega, by omega⟩, ⟨by omega, by omega⟩, ⟨by omega, by omega⟩, ⟨by omega, by omega⟩, True.intro⟩, ?_⟩
  refine m_logs hM hA q1.1 (fun w5 l1 l2 => ?_)
  refine m_drops hM (z_okg_note hA) hg.1 (by rw [z_note_lt (by decide)]; exact hg.2) l1 (fun w6 d1 d2 => ?_)
  rw [z_cut_note] at d1
  have e2 : w6 163 2 = A 2 0 - 1 := by
    have := d1.1.2.2.1
    rw [z_note_lt (by decide), z_cut_2] at this
    exact this
  rw [e2]
  refine m_done hM ((q1.2.fr (by rw [l2 161 (by omega)]) (l2 165 (by omega))).fr (by rw [d2 161 (by omega)]) (d2 165 (by omega))) (fun C hC => (hok C hC).1) hA (by rw [d2 164 (by omega), l2 164 (by omega)]; exact q2) (fun w7 b1 b2 b3 => ?_)
  refine ⟨_, _, rfl, rfl, k w7 ⟨by rw [b2 163 (by omega) (by omega)]; exact d1, b1⟩ (((q3.trans (z_frM.of (a := 163) (by omega) l2)).trans (z_frM.of (a := 163) (by omega) d2)).trans ⟨fun a a1 a2 a3 a4 a5 => b2 a a4 a1, fun j j1 j2 => b3 j j1⟩)⟩
