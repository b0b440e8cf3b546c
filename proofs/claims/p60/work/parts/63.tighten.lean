/-! TIGHTEN -/
/-- the number that makes a gap tight -/
noncomputable def z_tnb (A : z_A) (g : Int) : Int := if A 5 g = 0 then z_dd A (-1) (z_gs A g).1 (z_gs A g).2.1 else - z_dd A (-1) (z_gs A g).1 (z_gs A g).2.1
def z_lse (A : z_A) (g : Int) : Prop := ¬ A 7 g = 0 ∧ ¬ z_tg A g ∧ 0 ≤ z_tnb A g
/-- the gaps before i are tightened -/
noncomputable def z_tp (A : z_A) (i : Int) : z_A := fun ch j => @ite _ (ch = 6 ∧ 0 ≤ j ∧ j < i ∧ z_lse A j) (Classical.propDecidable _) (z_tnb A j) (A ch j)
theorem z_tp_ne {A : z_A} {i j : Int} {ch : Nat} (h : ch ≠ 6 ∨ i ≤ j ∨ j < 0 ∨ ¬ z_lse A j) : z_tp A i ch j = A ch j := by
  unfold z_tp
  rw [if_neg]
  rintro ⟨a, b, c, d⟩
  rcases h with h | h | h | h
  · exact h a
  · omega
  · omega
  · exact h d
theorem z_tp_at {A : z_A} {i j : Int} (h0 : 0 ≤ j) (h1 : j < i) (h2 : z_lse A j) : z_tp A i 6 j = z_tnb A j := if_pos ⟨rfl, h0, h1, h2⟩
theorem z_tp_0 {A : z_A} : z_tp A 0 = A := by
  funext ch j
  by_cases h : 0 ≤ j
  · exact z_tp_ne (Or.inr (Or.inl h))
  · exact z_tp_ne (Or.inr (Or.inr (Or.inl (by omega))))
theorem z_tp_up {A : z_A} {i : Int} (i0 : 0 ≤ i) (h : z_lse A i) : z_up (z_tp A i) 6 i (z_tnb A i) = z_tp A (i + 1) := by
  funext ch j
  by_cases q : ch = 6 ∧ j = i
  · obtain ⟨q1, q2⟩ := q
    subst q1; subst q2
    rw [z_up_same, z_tp_at i0 (by omega) h]
  · rw [z_up_ne (by omega)]
    by_cases c : ch = 6 ∧ 0 ≤ j ∧ j < i ∧ z_lse A j
    · obtain ⟨c1, c2, c3, c4⟩ := c
      subst c1
      rw [z_tp_at c2 c3 c4, z_tp_at c2 (by omega) c4]
    · have e1 : z_tp A i ch j = A ch j := if_neg c
      have e2 : z_tp A (i + 1) ch j = A ch j := if_neg (fun ⟨c1, c2, c3, c4⟩ => c ⟨c1, c2, by omega, c4⟩)
      rw [e1, e2]
theorem z_tp_no {A : z_A} {i : Int} (h : ¬ z_lse A i) : z_tp A i = z_tp A (i + 1) := by
  funext ch j
  by_cases c : ch = 6 ∧ 0 ≤ j ∧ j < i ∧ z_lse A j
  · obtain ⟨c1, c2, c3, c4⟩ := c
    subst c1
    rw [z_tp_at c2 c3 c4, z_tp_at c2 (by omega) c4]
  · have e1 : z_tp A i ch j = A ch j := if_neg c
    have e2 : z_tp A (i + 1) ch j = A ch j := if_neg (fun ⟨c1, c2, c3, c4⟩ => by
      by_cases q : j = i
      · rw [q] at c4; exact h c4
      · exact c ⟨c1, c2, by omega, c4⟩)
    rw [e1, e2]
theorem z_dd_R {A : z_A} {lo a b : Int} (hA : z_okg A) (hb : z_bears A) (ha : z_bl (A 1 0) a) (hb' : z_bl (A 1 0) b) : -999 ≤ z_dd A lo a b ∧ z_dd A lo a b ≤ 999 := z_D_R (z_sv_A hA hb lo) ha hb'
theorem z_tn_R {A : z_A} {g : Int} (hA : z_okg A) (hb : z_bears A) (g0 : 0 ≤ g) (g1 : g < A 2 0) : -999 ≤ z_tnb A g ∧ z_tnb A g ≤ 999 := by
  obtain ⟨b1, b2, -, -⟩ := z_gs_bl hA g0 g1
  have := z_dd_R (lo := -1) hA hb b1 b2
  unfold z_tnb
  split <;> omega
theorem z_okg_tp {A : z_A} {i : Int} (hA : z_okg A) (hb : z_bears A) : z_okg (z_tp A i) := by
  obtain ⟨a1, a2, a3, a4, a5, a6⟩ := id hA
  unfold z_okg
  rw [z_tp_ne (ch := 0) (by omega), z_tp_ne (ch := 1) (by omega), z_tp_ne (ch := 2) (by omega), z_tp_ne (ch := 8) (by omega)]
  refine ⟨a1, a2, a3, fun g g0 g1 => ?_, fun e e0 e1 => by rw [z_tp_ne (ch := 8) (by omega)]; exact a5 e e0 e1, a6⟩
  rw [z_tp_ne (ch := 3) (by omega), z_tp_ne (ch := 4) (by omega), z_tp_ne (ch := 5) (by omega), z_tp_ne (ch := 7) (by omega)]
  obtain ⟨r1, r2, r3, r4, r5, r6⟩ := a4 g g0 g1
  refine ⟨r1, r2, r3, r4, ?_, r6⟩
  by_cases c : g < i ∧ z_lse A g
  · rw [z_tp_at g0 c.1 c.2]
    exact ⟨c.2.2.2, (z_tn_R hA hb g0 g1).2⟩
  · have e : z_tp A i 6 g = A 6 g := if_neg (fun ⟨_, _, c3, c4⟩ => c ⟨c3, c4⟩)
    rw [e]; exact r5
theorem z_okn_tp {A : z_A} {i : Int} (h : z_okn A) : z_okn (z_tp A i) := z_okn_of h (z_tp_ne (by omega)) (fun _ => z_tp_ne (by omega)) (z_tp_ne (by omega))
theorem z_le_dd {A : z_A} {g : Int} (hA : z_okg A) (hb : z_bears A) (g0 : 0 ≤ g) (g1 : g < A 2 0) (h7 : ¬ A 7 g = 0) : z_dd A (-1) (z_gs A g).1 (z_gs A g).2.1 ≤ (z_gs A g).2.2.1 := by
  obtain ⟨b1, b2, -, -⟩ := z_gs_bl hA g0 g1
  obtain ⟨y, hy, hy2⟩ := (z_isd hA hb (-1) _ _ b1 b2).2
  rw [← hy2]
  exact z_Fg_l.mp (((z_F_g g0 g1).mp ((z_F_iff hA).mp hy)).2 h7)
theorem z_gs_tp {A : z_A} {i g : Int} : (z_gs (z_tp A i) g).1 = (z_gs A g).1 ∧ (z_gs (z_tp A i) g).2.1 = (z_gs A g).2.1 ∧ (z_tp A i 6 g = A 6 g → z_gs (z_tp A i) g = z_gs A g) ∧ (z_tp A i 6 g = z_tnb A g → (z_gs (z_tp A i) g).2.2.1 = z_dd A (-1) (z_gs A g).1 (z_gs A g).2.1) := by
  unfold z_gs
  rw [z_tp_ne (ch := 3) (by omega), z_tp_ne (ch := 4) (by omega), z_tp_ne (ch := 5) (by omega)]
  refine ⟨rfl, rfl, fun h => by rw [h], fun h => ?_⟩
  show (if A 5 g = 0 then z_tp A i 6 g else - z_tp A i 6 g) = _
  rw [h]
  unfold z_tnb z_gs
  split
  · rfl
  · rw [Int.neg_neg]
theorem z_F_tp {A : z_A} {i : Int} (hA : z_okg A) (hb : z_bears A) {x : Int → Int} : z_F (z_tp A i) (-1) x ↔ z_F A (-1) x := by
  have key : ∀ g, 0 ≤ g → g < A 2 0 → ¬ A 7 g = 0 → (z_F A (-1) x → z_Fg (z_tp A i) g x) ∧ (z_Fg (z_tp A i) g x → z_Fg A g x) := by
    intro g g0 g1 g7
    obtain ⟨t1, t2, t3, t4⟩ := z_gs_tp (A := A) (i := i) (g := g)
    obtain ⟨b1, b2, -, -⟩ := z_gs_bl hA g0 g1
    have hle := z_le_dd hA hb g0 g1 g7
    by_cases c : g < i ∧ z_lse A g
    · have e := z_tp_at g0 c.1 c.2
      constructor
      · intro hx
        rw [z_Fg_l, t1, t2, t4 e]
        exact (z_isd hA hb (-1) _ _ b1 b2).1 x ((z_F_iff hA).mpr hx)
      · intro hx
        rw [z_Fg_l, t1, t2, t4 e] at hx
        rw [z_Fg_l]
        omega
    · have e : z_tp A i 6 g = A 6 g := if_neg (fun ⟨_, _, c3, c4⟩ => c ⟨c3, c4⟩)
      constructor
      · intro hx
        rw [z_Fg_l, t3 e, ← z_Fg_l]
        exact ((z_F_g g0 g1).mp hx).2 g7
      · intro hx
        rw [z_Fg_l, t3 e, ← z_Fg_l] at hx
        exact hx
  constructor
  · rintro ⟨h1, h2, h3⟩
    rw [z_tp_ne (ch := 2) (by omega)] at h1
    rw [z_tp_ne (ch := 1) (by omega)] at h2 h3
    rw [z_tp_ne (ch := 0) (by omega)] at h2
    refine ⟨fun g g0 g1 g2 g3 => (key g g0 g1 g2).2 (h1 g g0 g1 (by rw [z_tp_ne (ch := 7) (by omega)]; exact g2) g3), h2, fun e e0 e1 e2 => ?_⟩
    have := h3 e e0 e1 (by rw [z_tp_ne (ch := 8) (by omega)]; exact e2)
    rw [z_tp_ne (ch := 8) (by omega)] at this
    exact this
  · intro hx
    obtain ⟨h1, h2, h3⟩ := id hx
    unfold z_F
    rw [z_tp_ne (ch := 2) (by omega), z_tp_ne (ch := 1) (by omega), z_tp_ne (ch := 0) (by omega)]
    refine ⟨fun g g0 g1 g2 g3 => ?_, h2, fun e e0 e1 e2 => ?_⟩
    · rw [z_tp_ne (ch := 7) (by omega)] at g2
      exact (key g g0 g1 g2).1 hx
    · rw [z_tp_ne (ch := 8) (by omega)] at e2 ⊢
      exact h3 e e0 e1 e2
theorem z_bears_tp {A : z_A} {i : Int} (hA : z_okg A) (hb : z_bears A) : z_bears (z_tp A i) := by
  obtain ⟨x, hx⟩ := id hb
  exact ⟨x, (z_F_tp hA hb).mpr hx⟩
theorem z_dd_tp {A : z_A} {i a b : Int} (hA : z_okg A) (hb : z_bears A) (ha : z_bl (A 1 0) a) (hb' : z_bl (A 1 0) b) : z_dd (z_tp A i) (-1) a b = z_dd A (-1) a b := by
  have h := z_isd (z_okg_tp (i := i) hA hb) (z_bears_tp (i := i) hA hb) (-1)
  rw [z_tp_ne (ch := 1) (by omega)] at h
  exact z_IsD_uniq (z_IsD_congr (S' := z_Sx A (-1)) (fun x => by rw [z_F_iff (z_okg_tp hA hb), z_F_iff hA, z_F_tp hA hb]) h) (z_isd hA hb (-1)) ha hb'
/-- how many are loose -/
noncomputable def z_cl (A : z_A) : Nat → Int
  | 0 => 0
  | k + 1 => z_cl A k + @ite _ (z_lse A (k : Int)) (Classical.propDecidable _) 1 0
theorem z_cl_R {A : z_A} : ∀ k : Nat, 0 ≤ z_cl A k ∧ z_cl A k ≤ k
  | 0 => ⟨Int.le_refl _, Int.le_refl _⟩
  | k + 1 => by
    have := z_cl_R (A := A) k
    rw [z_cl]
    split <;> omega
theorem z_cl_s {A : z_A} {i : Int} (i0 : 0 ≤ i) : (z_lse A i → z_cl A (i + 1).toNat = z_cl A i.toNat + 1) ∧ (¬ z_lse A i → z_cl A (i + 1).toNat = z_cl A i.toNat) := by
  have ek : (i + 1).toNat = i.toNat + 1 := by omega
  rw [ek, z_cl, show ((i.toNat : Nat) : Int) = i by omega]
  exact ⟨fun h => by rw [if_pos h], fun h => by rw [if_neg h, Int.add_zero]⟩
/-- the room of the first k events -/
noncomputable def z_ro (A : z_A) : Nat → Int
  | 0 => 0
  | k + 1 => z_ro A k + (z_dd A (-1) 0 (k : Int) + z_dd A (-1) (k : Int) 0)
theorem z_ro_R {A : z_A} (hA : z_okg A) (hb : z_bears A) : ∀ k : Nat, (k : Int) ≤ A 1 0 → -1998 * (k : Int) ≤ z_ro A k ∧ z_ro A k ≤ 1998 * (k : Int)
  | 0, _ => by simp [z_ro]
  | k + 1, h => by
    have := z_ro_R hA hb k (by omega)
    have a := z_dd_R (lo := -1) hA hb (a := 0) (b := (k : Int)) ⟨by omega, by omega⟩ ⟨by omega, by omega⟩
    have b := z_dd_R (lo := -1) hA hb (a := (k : Int)) (b := 0) ⟨by omega, by omega⟩ ⟨by omega, by omega⟩
    rw [z_ro]
    omega
theorem z_ro_s {A : z_A} {i : Int} (i0 : 0 ≤ i) : z_ro A (i + 1).toNat = z_ro A i.toNat + (z_dd A (-1) 0 i + z_dd A (-1) i 0) := by
  have ek : (i + 1).toNat = i.toNat + 1 := by omega
  rw [ek, z_ro, show ((i.toNat : Nat) : Int) = i by omega]
theorem z_ro_tp {A : z_A} {i : Int} (hA : z_okg A) (hb : z_bears A) : ∀ k : Nat, (k : Int) ≤ A 1 0 → z_ro (z_tp A i) k = z_ro A k
  | 0, _ => rfl
  | k + 1, h => by rw [z_ro, z_ro, z_ro_tp hA hb k (by omega), z_dd_tp hA hb ⟨by omega, by omega⟩ ⟨by omega, by omega⟩, z_dd_tp hA hb ⟨by omega, by omega⟩ ⟨by omega, by omega⟩]
theorem c_room {sh : List z_C} {w : z_Mm} {A : z_A} {K : Int → z_Mm → Prop} (hT : z_isTG sh 0) (hA : z_okg A) (hb : z_bears A) (hn : z_nb w A) (k : K (z_ro A (A 1 0).toNat) w) : z_CI mX2_room [z_r 12] sh w K := by
  obtain ⟨S, hv, hS, hd⟩ := hn
  have r1 := hA.2.1
  have e6 : w 12 6 = A 1 0 := hd.1
  have b0 : z_bl (A 1 0) 0 := ⟨by omega, by omega⟩
  refine z_CIi (t_X2_room hT.2.2.1 ?_)
  refine z_for (n := A 1 0) (i0 := 0) (fun i v => z_Sem mX2_room (sh.length, 0) 4 [(0, z_r 12), (1, z_i (z_ro A i.toNat)), (2, z_i i)] [] (sh, v) _)
    (fun i v => v = w) (by omega) rfl ?_ ?_
  · rintro v rfl
    exact t_X2_room_4 hT.2.2.1 ⟨fun _ => ⟨_, _, rfl, rfl, k⟩, fun c => absurd c (by omega)⟩
  · rintro i v i0 i1 rfl kk
    have bi : z_bl (A 1 0) i := ⟨i0, i1⟩
    have ra := z_dd_R (lo := -1) hA hb b0 bi
    have rb := z_dd_R (lo := -1) hA hb bi b0
    have rr := z_ro_R hA hb i.toNat (by omega)
    have rii : ((i.toNat : Nat) : Int) = i := by omega
    refine t_X2_room_4 hT.2.2.1 ⟨fun c => absurd c (by omega), fun _ => ?_⟩
    rw [z_fla hv hd bi, z_fea hv hd bi, z_dd_S hA hb hv hS b0 bi, z_dd_S hA hb hv hS bi b0]
    refine ⟨z_sla hv hd bi, z_sea hv hd bi, ⟨by omega, by omega⟩, ⟨by omega, by omega⟩, fun y6 e6 => ⟨⟨by omega, by omega⟩, ?_⟩⟩
    have := kk v rfl
    rw [z_ro_s i0] at this
    rw [e6, show z_dd A (-1) 0 i - - z_dd A (-1) i 0 = z_dd A (-1) 0 i + z_dd A (-1) i 0 by omega]
    exact this
