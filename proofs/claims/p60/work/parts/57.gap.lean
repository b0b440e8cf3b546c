/-! GAPS THAT COME AND GO -/
/-- one gap more -/
def z_add (A : z_A) (one oth kd n on : Int) : z_A := fun ch i =>
  if ch = 2 then (if i = 0 then A 2 0 + 1 else A 2 i)
  else if ch = 3 then (if i = A 2 0 then one else A 3 i)
  else if ch = 4 then (if i = A 2 0 then oth else A 4 i)
  else if ch = 5 then (if i = A 2 0 then kd else A 5 i)
  else if ch = 6 then (if i = A 2 0 then n else A 6 i)
  else if ch = 7 then (if i = A 2 0 then on else A 7 i)
  else A ch i
/-- one gap less -/
def z_cut (A : z_A) (g : Int) : z_A := fun ch i =>
  if ch = 2 then (if i = 0 then A 2 0 - 1 else A 2 i)
  else if 3 ≤ ch ∧ ch ≤ 7 then (if i < g then A ch i else A ch (i + 1))
  else A ch i
theorem z_add_lt {A : z_A} {one oth kd n on i : Int} {ch : Nat} (h : ch < 2 ∨ 7 < ch) : z_add A one oth kd n on ch i = A ch i := by
  unfold z_add
  rw [if_neg (by omega), if_neg (by omega), if_neg (by omega), if_neg (by omega), if_neg (by omega), if_neg (by omega)]
theorem z_add_2 {A : z_A} {one oth kd n on : Int} : z_add A one oth kd n on 2 0 = A 2 0 + 1 := rfl
theorem z_add_new {A : z_A} {one oth kd n on : Int} : z_add A one oth kd n on 3 (A 2 0) = one ∧ z_add A one oth kd n on 4 (A 2 0) = oth ∧ z_add A one oth kd n on 5 (A 2 0) = kd ∧ z_add A one oth kd n on 6 (A 2 0) = n ∧ z_add A one oth kd n on 7 (A 2 0) = on :=
  ⟨if_pos rfl, if_pos rfl, if_pos rfl, if_pos rfl, if_pos rfl⟩
theorem z_add_old {A : z_A} {one oth kd n on i : Int} {ch : Nat} (hc : 3 ≤ ch ∧ ch ≤ 7) (h : i ≠ A 2 0) : z_add A one oth kd n on ch i = A ch i := by
  unfold z_add
  rw [if_neg (by omega)]
  simp only [if_neg h]
  split
  · rename_i e; rw [e]
  · split
    · rename_i e; rw [e]
    · split
      · rename_i e; rw [e]
      · split
        · rename_i e; rw [e]
        · split
          · rename_i e; rw [e]
          · rfl
theorem z_cut_lt {A : z_A} {g i : Int} {ch : Nat} (h : ch < 2 ∨ 7 < ch) : z_cut A g ch i = A ch i := by
  unfold z_cut
  rw [if_neg (by omega), if_neg (by omega)]
theorem z_cut_2 {A : z_A} {g : Int} : z_cut A g 2 0 = A 2 0 - 1 := rfl
theorem z_cut_a {A : z_A} {g i : Int} {ch : Nat} (h : 3 ≤ ch ∧ ch ≤ 7) (hi : i < g) : z_cut A g ch i = A ch i := by
  unfold z_cut
  rw [if_neg (by omega), if_pos h, if_pos hi]
theorem z_cut_b {A : z_A} {g i : Int} {ch : Nat} (h : 3 ≤ ch ∧ ch ≤ 7) (hi : ¬ i < g) : z_cut A g ch i = A ch (i + 1) := by
  unfold z_cut
  rw [if_neg (by omega), if_pos h, if_neg hi]
theorem z_Fg_eq {A B : z_A} {g h : Int} (h3 : B 3 h = A 3 g) (h4 : B 4 h = A 4 g) (h5 : B 5 h = A 5 g) (h6 : B 6 h = A 6 g) {x : Int → Int} : z_Fg B h x ↔ z_Fg A g x := by
  unfold z_Fg
  rw [h3, h4, h5, h6]
theorem z_F_add {A : z_A} {one oth kd n : Int} {x : Int → Int} (h2 : 0 ≤ A 2 0) : z_F (z_add A one oth kd n 1) (-1) x ↔ (z_F A (-1) x ∧ x (if kd = 0 then oth else one) - x (if kd = 0 then one else oth) ≤ (if kd = 0 then n else -n)) := by
  obtain ⟨n3, n4, n5, n6, n7⟩ := z_add_new (A := A) (one := one) (oth := oth) (kd := kd) (n := n) (on := 1)
  have old : ∀ g : Int, g ≠ A 2 0 → (z_Fg (z_add A one oth kd n 1) g x ↔ z_Fg A g x) := fun g hg => z_Fg_eq (z_add_old (by omega) hg) (z_add_old (by omega) hg) (z_add_old (by omega) hg) (z_add_old (by omega) hg)
  unfold z_F
  rw [z_add_2, z_add_lt (by omega), z_add_lt (by omega)]
  constructor
  · rintro ⟨h1, h2', h3⟩
    refine ⟨⟨fun g g0 g1 g2 g3 => (old g (by omega)).mp (h1 g g0 (by omega) (by rw [z_add_old (by omega) (by omega)]; exact g2) g3), h2', fun e e0 e1 e2 => ?_⟩, (z_Fg_gs n3 n4 n5 n6).mp (h1 (A 2 0) h2 (by omega) (by rw [n7]; decide) (by omega))⟩
    have := h3 e e0 e1 (by rw [z_add_lt (by omega)]; exact e2)
    rw [z_add_lt (by omega)] at this
    exact this
  · rintro ⟨⟨h1, h2', h3⟩, h4⟩
    refine ⟨fun g g0 g1 g2 g3 => ?_, h2', fun e e0 e1 e2 => ?_⟩
    · by_cases q : g = A 2 0
      · rw [q]; exact (z_Fg_gs n3 n4 n5 n6).mpr h4
      · rw [z_add_old (by omega) q] at g2
        exact (old g q).mpr (h1 g g0 (by omega) g2 g3)
    · rw [z_add_lt (by omega)] at e2 ⊢
      exact h3 e e0 e1 e2
theorem z_F_cut {A : z_A} {g : Int} {x : Int → Int} (g0 : 0 ≤ g) (g1 : g < A 2 0) : z_F (z_cut A g) (-1) x ↔ z_F A g x := by
  have ea : ∀ h : Int, h < g → (z_Fg (z_cut A g) h x ↔ z_Fg A h x) := fun h hh => z_Fg_eq (z_cut_a (by omega) hh) (z_cut_a (by omega) hh) (z_cut_a (by omega) hh) (z_cut_a (by omega) hh)
  have eb : ∀ h : Int, ¬ h < g → (z_Fg (z_cut A g) h x ↔ z_Fg A (h + 1) x) := fun h hh => z_Fg_eq (z_cut_b (by omega) hh) (z_cut_b (by omega) hh) (z_cut_b (by omega) hh) (z_cut_b (by omega) hh)
  unfold z_F
  rw [z_cut_2, z_cut_lt (by omega), z_cut_lt (by omega)]
  constructor
  · rintro ⟨h1, h2, h3⟩
    refine ⟨fun h h0 hh1 hh2 hh3 => ?_, h2, fun e e0 e1 e2 => ?_⟩
    · by_cases q : h < g
      · exact (ea h q).mp (h1 h h0 (by omega) (by rw [z_cut_a (by omega) q]; exact hh2) (by omega))
      · have := (eb (h - 1) (by omega)).mp (h1 (h - 1) (by omega) (by omega) (by rw [z_cut_b (by omega) (by omega), show h - 1 + 1 = h by omega]; exact hh2) (by omega))
        rw [show h - 1 + 1 = h by omega] at this
        exact this
    · have := h3 e e0 e1 (by rw [z_cut_lt (by omega)]; exact e2)
      rw [z_cut_lt (by omega)] at this
      exact this
  · rintro ⟨h1, h2, h3⟩
    refine ⟨fun h h0 hh1 hh2 hh3 => ?_, h2, fun e e0 e1 e2 => ?_⟩
    · by_cases q : h < g
      · rw [z_cut_a (by omega) q] at hh2
        exact (ea h q).mpr (h1 h h0 (by omega) hh2 (by omega))
      · rw [z_cut_b (by omega) q] at hh2
        exact (eb h q).mpr (h1 (h + 1) (by omega) (by omega) hh2 (by omega))
    · rw [z_cut_lt (by omega)] at e2 ⊢
      exact h3 e e0 e1 e2
theorem z_okg_add {A : z_A} {one oth kd n on : Int} (hA : z_okg A) (h24 : A 2 0 < 24) (h1 : 0 ≤ one ∧ one < A 1 0) (h2 : 0 ≤ oth ∧ oth < A 1 0) (h3 : one ≠ oth) (h4 : 0 ≤ kd ∧ kd ≤ 1) (h5 : 0 ≤ n ∧ n ≤ 999) (h6 : 0 ≤ on ∧ on ≤ 1) : z_okg (z_add A one oth kd n on) := by
  obtain ⟨a1, a2, a3, a4, a5, a6⟩ := hA
  obtain ⟨n3, n4, n5, n6, n7⟩ := z_add_new (A := A) (one := one) (oth := oth) (kd := kd) (n := n) (on := on)
  unfold z_okg
  rw [z_add_2, z_add_lt (by omega), z_add_lt (by omega), z_add_lt (by omega)]
  refine ⟨a1, a2, by omega, fun g g0 g1 => ?_, fun e e0 e1 => ?_, a6⟩
  · by_cases q : g = A 2 0
    · rw [q, n3, n4, n5, n6, n7]
      exact ⟨h1, h2, h3, h4, h5, h6⟩
    · rw [z_add_old (by omega) q, z_add_old (by omega) q, z_add_old (by omega) q, z_add_old (by omega) q, z_add_old (by omega) q]
      exact a4 g g0 (by omega)
  · rw [z_add_lt (by omega)]
    exact a5 e e0 e1
theorem z_okg_cut {A : z_A} {g : Int} (hA : z_okg A) (g0 : 0 ≤ g) (g1 : g < A 2 0) : z_okg (z_cut A g) := by
  obtain ⟨a1, a2, a3, a4, a5, a6⟩ := hA
  unfold z_okg
  rw [z_cut_2, z_cut_lt (by omega), z_cut_lt (by omega), z_cut_lt (by omega)]
  refine ⟨a1, a2, by omega, fun h h0 h1 => ?_, fun e e0 e1 => ?_, a6⟩
  · by_cases q : h < g
    · rw [z_cut_a (by omega) q, z_cut_a (by omega) q, z_cut_a (by omega) q, z_cut_a (by omega) q, z_cut_a (by omega) q]
      exact a4 h h0 (by omega)
    · rw [z_cut_b (by omega) q, z_cut_b (by omega) q, z_cut_b (by omega) q, z_cut_b (by omega) q, z_cut_b (by omega) q]
      exact a4 (h + 1) (by omega) (by omega)
  · rw [z_cut_lt (by omega)]
    exact a5 e e0 e1
theorem z_bears_cut {A : z_A} {g : Int} (g0 : 0 ≤ g) (g1 : g < A 2 0) (h : z_bears A) : z_bears (z_cut A g) := by
  obtain ⟨x, hx⟩ := h
  exact ⟨x, (z_F_cut g0 g1).mpr (z_F_lo hx)⟩
theorem z_okn_of {A B : z_A} (h : z_okn A) (h1 : B 1 0 = A 1 0) (h9 : ∀ e, B 9 e = A 9 e) (h10 : B 10 0 = A 10 0) : z_okn B := by
  unfold z_okn
  rw [h1, h10, h9 0]
  exact ⟨fun e e0 e1 => by rw [h9 e]; exact h.1 e e0 e1, h.2⟩
theorem z_okn_add {A : z_A} {one oth kd n on : Int} (h : z_okn A) : z_okn (z_add A one oth kd n on) := z_okn_of h (z_add_lt (by omega)) (fun _ => z_add_lt (by omega)) (z_add_lt (by omega))
theorem z_okn_cut {A : z_A} {g : Int} (h : z_okn A) : z_okn (z_cut A g) := z_okn_of h (z_cut_lt (by omega)) (fun _ => z_cut_lt (by omega)) (z_cut_lt (by omega))
/-- the rest of a plan stays when gaps change -/
theorem z_pr.gaps {w w' : z_Mm} {P : Nat} {A B : z_A} (h : z_pr w P A) (hg : z_pg w' P B) (h1 : B 1 0 = A 1 0) (h9 : ∀ ch : Nat, 9 ≤ ch → ∀ e, B ch e = A ch e) (hon : ∀ g : Int, 0 ≤ g → g < 24 → 0 ≤ w' (P + 8) g ∧ w' (P + 8) g ≤ 1)
    (f1 : w' (P + 1) = w (P + 1)) (f2 : w' (P + 2) = w (P + 2)) (f3 : w' (P + 9) = w (P + 9)) (f4 : w' (P + 10) = w (P + 10)) : z_pr w' P B := by
  obtain ⟨-, h6, h7, h8⟩ := h
  refine ⟨hg, fun e e0 e1 => ?_, ?_, hon⟩
  · rw [h1] at e1
    unfold z_nm
    rw [f1, f2, h9 9 (by omega)]
    exact h6 e e0 e1
  · unfold z_lg
    rw [f3, show w' (P + 9 + 1) = w (P + 9 + 1) from f4, h9 10 (by omega), show B 11 = A 11 from funext (h9 11 (by omega)), show B 12 = A 12 from funext (h9 12 (by omega)), show B 13 = A 13 from funext (h9 13 (by omega))]
    exact h7
theorem c_addGap {sh : List z_C} {w : z_Mm} {P : Nat} {A : z_A} {one oth kd n on : Int} {K : Int → z_Mm → Prop} (hP : z_isPla sh P) (hA : z_okg A) (h24 : A 2 0 < 24) (ho : 0 ≤ on ∧ on ≤ 1) (hp : z_pr w P A)
    (k : ∀ w', z_pr w' P (z_add A one oth kd n on) → z_frP w w' P → K (A 2 0) w') : z_CI mX3_addGap [z_r P, z_i one, z_i oth, z_i kd, z_i n, z_i on] sh w K := by
  have p11 : w P 11 = A 2 0 := hp.1.2.2.1
  have r2 := hA.2.2.1
  refine z_CIi (t_X3_addGap hP ⟨fun c y2 e2 => ?_, fun c => absurd c (by omega)⟩)
  rw [p11] at e2
  rw [e2]
  refine ⟨⟨by omega, by omega⟩, fun w3 e3 => ⟨⟨by omega, by omega⟩, fun w5 e5 => ⟨⟨by omega, by omega⟩, fun w7 e7 => ⟨⟨by omega, by omega⟩, fun w9 e9 => ⟨⟨by omega, by omega⟩, ho, fun w11 e11 => ?_⟩⟩⟩⟩⟩
  have q11 : w11 P 11 = A 2 0 := by rw [e11, z_Wf (by omega), e9, z_Wf (by omega), e7, z_Wf (by omega), e5, z_Wf (by omega), e3, z_Wf (by omega), p11]
  rw [q11]
  refine ⟨⟨by omega, by omega⟩, fun w15 e15 => ⟨_, w15, rfl, rfl, k w15 ?_ (fun a ha => ?_)⟩⟩
  · obtain ⟨n3, n4, n5, n6, n7⟩ := z_add_new (A := A) (one := one) (oth := oth) (kd := kd) (n := n) (on := on)
    have c4 : w15 (P + 4) = z_W w (P + 4) (A 2 0) one (P + 4) := by rw [e15, z_Wf (by omega), e11, z_Wf (by omega), e9, z_Wf (by omega), e7, z_Wf (by omega), e5, z_Wf (by omega), e3]
    have c5 : w15 (P + 5) = z_W w3 (P + 5) (A 2 0) oth (P + 5) := by rw [e15, z_Wf (by omega), e11, z_Wf (by omega), e9, z_Wf (by omega), e7, z_Wf (by omega), e5]
    have c6 : w15 (P + 6) = z_W w5 (P + 6) (A 2 0) kd (P + 6) := by rw [e15, z_Wf (by omega), e11, z_Wf (by omega), e9, z_Wf (by omega), e7]
    have c7 : w15 (P + 7) = z_W w7 (P + 7) (A 2 0) n (P + 7) := by rw [e15, z_Wf (by omega), e11, z_Wf (by omega), e9]
    have c8 : w15 (P + 8) = z_W w9 (P + 8) (A 2 0) on (P + 8) := by rw [e15, z_Wf (by omega), e11]
    have d5 : w3 (P + 5) = w (P + 5) := by rw [e3, z_Wf (by omega)]
    have d6 : w5 (P + 6) = w (P + 6) := by rw [e5, z_Wf (by omega), e3, z_Wf (by omega)]
    have d7 : w7 (P + 7) = w (P + 7) := by rw [e7, z_Wf (by omega), e5, z_Wf (by omega), e3, z_Wf (by omega)]
    have d8 : w9 (P + 8) = w (P + 8) := by rw [e9, z_Wf (by omega), e7, z_Wf (by omega), e5, z_Wf (by omega), e3, z_Wf (by omega)]
    have o : ∀ c : Nat, c ≠ P → (c < P + 4 ∨ P + 8 < c) → w15 c = w c := fun c h1 h2 => by
      rw [e15, z_Wf h1, e11, z_Wf (by omega), e9, z_Wf (by omega), e7, z_Wf (by omega), e5, z_Wf (by omega), e3, z_Wf (by omega)]
    have oP : ∀ j : Int, j ≠ 11 → w15 P j = w P j := fun j hj => by
      rw [e15, z_W_ne (Or.inr hj), e11, z_Wf (by omega), e9, z_Wf (by omega), e7, z_Wf (by omega), e5, z_Wf (by omega), e3, z_Wf (by omega)]
    refine hp.gaps ⟨?_, ?_, ?_, fun g g0 g1 => ?_, fun e e0 e1 => ?_⟩ (z_add_lt (by omega)) (fun ch hc e => z_add_lt (by omega)) (fun g g0 g1 => ?_) (o _ (by omega) (by omega)) (o _ (by omega) (by omega)) (o _ (by omega) (by omega)) (o _ (by omega) (by omega))
    · rw [oP 9 (by decide), z_add_lt (by omega)]; exact hp.1.1
    · rw [oP 10 (by decide), z_add_lt (by omega)]; exact hp.1.2.1
    · rw [e15, z_W_same, z_add_2]
    · rw [z_add_2] at g1
      rw [c4, c5, c6, c7, c8]
      by_cases q : g = A 2 0
      · subst q
        rw [z_W_same, z_W_same, z_W_same, z_W_same, z_W_same, n3, n4, n5, n6, n7]
        exact ⟨rfl, rfl, rfl, rfl, rfl⟩
      · rw [z_W_ne (Or.inr q), z_W_ne (Or.inr q), z_W_ne (Or.inr q), z_W_ne (Or.inr q), z_W_ne (Or.inr q), d5, d6, d7, d8, z_add_old (by omega) q, z_add_old (by omega) q, z_add_old (by omega) q, z_add_old (by omega) q, z_add_old (by omega) q]
        exact hp.1.2.2.2.1 g g0 (by omega)
    · rw [z_add_lt (by omega)] at e1
      rw [o (P + 3) (by omega) (by omega), z_add_lt (by omega)]
      exact hp.1.2.2.2.2 e e0 e1
    · rw [c8]
      by_cases q : g = A 2 0
      · subst q; rw [z_W_same]; exact ho
      · rw [z_W_ne (Or.inr q), d8]
        exact hp.2.2.2 g g0 g1
  · rw [e15, z_Wf (by omega), e11, z_Wf (by omega), e9, z_Wf (by omega), e7, z_Wf (by omega), e5, z_Wf (by omega), e3, z_Wf (by omega)]
theorem c_removeGap {sh : List z_C} {w : z_Mm} {P : Nat} {A : z_A} {g : Int} {K : z_Mm → Prop} (hP : z_isPla sh P) (hA : z_okg A) (g0 : 0 ≤ g) (g1 : g < A 2 0) (hp : z_pr w P A)
    (k : ∀ w', z_pr w' P (z_cut A g) → z_frP w w' P → K w') : z_CV mX3_removeGap [z_r P, z_i g] sh w K := by
  have p11 : w P 11 = A 2 0 := hp.1.2.2.1
  have r2 := hA.2.2.1
  refine z_CVi (t_X3_removeGap hP ?_)
  refine z_for (n := A 2 0 - 1) (i0 := g) (fun i v => z_Sem mX3_removeGap (sh.length, 0) 2 [(0, z_r P), (2, z_i i)] [] (sh, v) _)
    (fun i v => (∀ c : Nat, (c < P + 4 ∨ P + 8 < c) → v c = w c) ∧ (∀ d : Nat, 4 ≤ d → d ≤ 8 → ∀ j : Int, (g ≤ j → j < i → v (P + d) j = w (P + d) (j + 1)) ∧ ((j < g ∨ i ≤ j) → v (P + d) j = w (P + d) j)))
    (by omega) ⟨fun _ _ => rfl, fun d _ _ j => ⟨fun a b => absurd b (by omega), fun _ => rfl⟩⟩ ?_ ?_
  · rintro v ⟨vf, vd⟩
    refine t_X3_removeGap_2 hP ⟨⟨by omega, by omega⟩, fun _ => ?_, fun c => ?_⟩
    · rw [vf P (by omega), p11]
      refine ⟨⟨by omega, by omega⟩, fun w4 e4 => ⟨w4, rfl, rfl, k w4 ?_ (fun a ha => by rw [e4, z_Wf (by omega), vf a (by omega)])⟩⟩
      have o : ∀ c : Nat, c ≠ P → (c < P + 4 ∨ P + 8 < c) → w4 c = w c := fun c h1 h2 => by rw [e4, z_Wf h1, vf c h2]
      have oP : ∀ j : Int, j ≠ 11 → w4 P j = w P j := fun j hj => by rw [e4, z_W_ne (Or.inr hj), vf P (by omega)]
      have od : ∀ d : Nat, 4 ≤ d → d ≤ 8 → w4 (P + d) = v (P + d) := fun d d0 d1 => by rw [e4, z_Wf (by omega)]
      refine hp.gaps ⟨?_, ?_, ?_, fun h h0 h1 => ?_, fun e e0 e1 => ?_⟩ (z_cut_lt (by omega)) (fun ch hc e => z_cut_lt (by omega)) (fun h h0 h1 => ?_) (o _ (by omega) (by omega)) (o _ (by omega) (by omega)) (o _ (by omega) (by omega)) (o _ (by omega) (by omega))
      · rw [oP 9 (by decide), z_cut_lt (by omega)]; exact hp.1.1
      · rw [oP 10 (by decide), z_cut_lt (by omega)]; exact hp.1.2.1
      · rw [e4, z_W_same, z_cut_2]
      · rw [z_cut_2] at h1
        rw [od 4 (by omega) (by omega), od 5 (by omega) (by omega), od 6 (by omega) (by omega), od 7 (by omega) (by omega), od 8 (by omega) (by omega)]
        by_cases q : h < g
        · rw [(vd 4 (by omega) (by omega) h).2 (by omega), (vd 5 (by omega) (by omega) h).2 (by omega), (vd 6 (by omega) (by omega) h).2 (by omega), (vd 7 (by omega) (by omega) h).2 (by omega), (vd 8 (by omega) (by omega) h).2 (by omega),
            z_cut_a (by omega) q, z_cut_a (by omega) q, z_cut_a (by omega) q, z_cut_a (by omega) q, z_cut_a (by omega) q]
          exact hp.1.2.2.2.1 h h0 (by omega)
        · rw [(vd 4 (by omega) (by omega) h).1 (by omega) (by omega), (vd 5 (by omega) (by omega) h).1 (by omega) (by omega), (vd 6 (by omega) (by omega) h).1 (by omega) (by omega), (vd 7 (by omega) (by omega) h).1 (by omega) (by omega), (vd 8 (by omega) (by omega) h).1 (by omega) (by omega),
            z_cut_b (by omega) q, z_cut_b (by omega) q, z_cut_b (by omega) q, z_cut_b (by omega) q, z_cut_b (by omega) q]
          exact hp.1.2.2.2.1 (h + 1) (by omega) (by omega)
      · rw [z_cut_lt (by omega)] at e1
        rw [o (P + 3) (by omega) (by omega), z_cut_lt (by omega)]
        exact hp.1.2.2.2.2 e e0 e1
      · rw [od 8 (by omega) (by omega)]
        by_cases q : g ≤ h ∧ h < A 2 0 - 1
        · rw [(vd 8 (by omega) (by omega) h).1 q.1 q.2]
          exact hp.2.2.2 (h + 1) (by omega) (by omega)
        · rw [(vd 8 (by omega) (by omega) h).2 (by omega)]
          exact hp.2.2.2 h h0 h1
    · rw [vf P (by omega), p11] at c
      exact absurd (show A 2 0 ≤ A 2 0 - 1 + 1 by omega) c
  · rintro i v i0 i1 ⟨vf, vd⟩ kk
    refine t_X3_removeGap_2 hP ⟨⟨by omega, by omega⟩, fun c => ?_, fun _ => ⟨⟨by omega, by omega⟩, ⟨by omega, by omega⟩, ⟨by omega, by omega⟩, fun w7 e7 => ⟨⟨by omega, by omega⟩, ⟨by omega, by omega⟩, ⟨by omega, by omega⟩, fun w11 e11 =>
      ⟨⟨by omega, by omega⟩, ⟨by omega, by omega⟩, ⟨by omega, by omega⟩, fun w15 e15 => ⟨⟨by omega, by omega⟩, ⟨by omega, by omega⟩, ⟨by omega, by omega⟩, fun w19 e19 => ⟨⟨by omega, by omega⟩, ⟨by omega, by omega⟩, ⟨by omega, by omega⟩, ?_, fun w23 e23 => ⟨⟨by omega, by omega⟩, kk w23 ⟨fun a ha => ?_, ?_⟩⟩⟩⟩⟩⟩⟩⟩
    · rw [vf P (by omega), p11] at c
      exact absurd c (by omega)
    · have : w19 (P + 8) = v (P + 8) := by rw [e19, z_Wf (by omega), e15, z_Wf (by omega), e11, z_Wf (by omega), e7, z_Wf (by omega)]
      rw [this, (vd 8 (by omega) (by omega) (i + 1)).2 (by omega)]
      exact hp.2.2.2 (i + 1) (by omega) (by omega)
    · rw [e23, z_Wf (by omega), e19, z_Wf (by omega), e15, z_Wf (by omega), e11, z_Wf (by omega), e7, z_Wf (by omega), vf a ha]
    · have b4 : w23 (P + 4) = z_W v (P + 4) i (v (P + 4) (i + 1)) (P + 4) := by rw [e23, z_Wf (by omega), e19, z_Wf (by omega), e15, z_Wf (by omega), e11, z_Wf (by omega), e7]
      have b5 : w23 (P + 5) = z_W w7 (P + 5) i (w7 (P + 5) (i + 1)) (P + 5) := by rw [e23, z_Wf (by omega), e19, z_Wf (by omega), e15, z_Wf (by omega), e11]
      have b6 : w23 (P + 6) = z_W w11 (P + 6) i (w11 (P + 6) (i + 1)) (P + 6) := by rw [e23, z_Wf (by omega), e19, z_Wf (by omega), e15]
      have b7 : w23 (P + 7) = z_W w15 (P + 7) i (w15 (P + 7) (i + 1)) (P + 7) := by rw [e23, z_Wf (by omega), e19]
      have b8 : w23 (P + 8) = z_W w19 (P + 8) i (w19 (P + 8) (i + 1)) (P + 8) := by rw [e23]
      have d5 : w7 (P + 5) = v (P + 5) := by rw [e7, z_Wf (by omega)]
      have d6 : w11 (P + 6) = v (P + 6) := by rw [e11, z_Wf (by omega), e7, z_Wf (by omega)]
      have d7 : w15 (P + 7) = v (P + 7) := by rw [e15, z_Wf (by omega), e11, z_Wf (by omega), e7, z_Wf (by omega)]
      have d8 : w19 (P + 8) = v (P + 8) := by rw [e19, z_Wf (by omega), e15, z_Wf (by omega), e11, z_Wf (by omega), e7, z_Wf (by omega)]
      have step : ∀ (u u' : z_Mm) (d : Nat), 4 ≤ d → d ≤ 8 → u (P + d) = v (P + d) → u' (P + d) = z_W u (P + d) i (u (P + d) (i + 1)) (P + d) → ∀ j : Int, (g ≤ j → j < i + 1 → u' (P + d) j = w (P + d) (j + 1)) ∧ ((j < g ∨ i + 1 ≤ j) → u' (P + d) j = w (P + d) j) := by
        intro u u' d d0 d1 h1 h2 j
        rw [h2]
        by_cases q : j = i
        · subst q
          rw [z_W_same, h1, (vd d d0 d1 (j + 1)).2 (by omega)]
          exact ⟨fun _ _ => rfl, fun c => absurd c (by omega)⟩
        · rw [z_W_ne (Or.inr q), h1]
          exact ⟨fun c1 c2 => (vd d d0 d1 j).1 c1 (by omega), fun c => (vd d d0 d1 j).2 (by omega)⟩
      intro d d0 d1
      have hd : d = 4 ∨ d = 5 ∨ d = 6 ∨ d = 7 ∨ d = 8 := by omega
      rcases hd with rfl | rfl | rfl | rfl | rfl
      · exact step v w23 4 (by omega) (by omega) rfl b4
      · exact step w7 w23 5 (by omega) (by omega) d5 b5
      · exact step w11 w23 6 (by omega) (by omega) d6 b6
      · exact step w15 w23 7 (by omega) (by omega) d7 b7
      · exact step w19 w23 8 (by omega) (by omega) d8 b8
