/-! ONE CHANGE OF A PLAN -/
/-- one cell of a plan value changed -/
def z_up (A : z_A) (ch : Nat) (i v : Int) : z_A := fun c j => if c = ch ∧ j = i then v else A c j
theorem z_up_ne {A : z_A} {ch c : Nat} {i v j : Int} (h : c ≠ ch ∨ j ≠ i) : z_up A ch i v c j = A c j := if_neg (by rintro ⟨a, b⟩; rcases h with h | h <;> exact h (by assumption))
theorem z_up_same {A : z_A} {ch : Nat} {i v : Int} : z_up A ch i v ch i = v := if_pos ⟨rfl, rfl⟩
/-- the class's plan, net and history -/
def z_cs (w : z_Mm) (A : z_A) (H : List z_A) : Prop := z_ok A ∧ z_pr w 1 A ∧ z_net w 12 A (-1) ∧ (∀ B ∈ H, z_ok B) ∧ z_hr w H
/-- the reference's plan and history -/
def z_ms (w : z_Mm) (A : z_A) (H : List z_A) : Prop := z_mr (w 163) A ∧ z_hm w H
def z_frC (w w' : z_Mm) : Prop := ∀ a : Nat, (a < 1 ∨ 113 < a) → w' a = w a
theorem z_frC.rf {w : z_Mm} : z_frC w w := fun _ _ => rfl
theorem z_frC.trans {w w1 w2 : z_Mm} (h1 : z_frC w w1) (h2 : z_frC w1 w2) : z_frC w w2 := fun a h => (h2 a h).trans (h1 a h)
theorem z_frCW {w : z_Mm} {b : Nat} {i x : Int} (h : 1 ≤ b ∧ b ≤ 113) : z_frC w (z_W w b i x) := fun a ha => z_Wf (by omega)
/-- the answer, the plan and the history after a change that is to be tried -/
noncomputable def z_try (A B : z_A) (H : List z_A) (x y z r : Int) : Int × z_A × List z_A := @ite _ (z_bears B) (Classical.propDecidable _) (r, z_note B x y z, z_push H A) (-5, A, H)
theorem z_try_t {A B : z_A} {H : List z_A} {x y z r : Int} (h : z_bears B) : z_try A B H x y z r = (r, z_note B x y z, z_push H A) := if_pos h
theorem z_try_f {A B : z_A} {H : List z_A} {x y z r : Int} (h : ¬ z_bears B) : z_try A B H x y z r = (-5, A, H) := if_neg h
theorem z_push_ok {H : List z_A} {A : z_A} (h : ∀ B ∈ H, z_ok B) (hA : z_ok A) : ∀ B ∈ z_push H A, z_ok B := by
  intro B hB
  simp only [z_push, List.mem_append, List.mem_singleton] at hB
  rcases hB with hB | rfl
  · split at hB
    · exact h B (List.mem_of_mem_drop hB)
    · exact h B hB
  · exact hA
theorem c_rem {sh : List z_C} {w : z_Mm} {A : z_A} {H : List z_A} {K : z_Mm → Prop} (hT : z_isTG sh 0) (hs : z_cs w A H)
    (k : ∀ w', z_pr w' 1 A → z_hr w' (z_push H A) → (∀ B ∈ z_push H A, z_ok B) → z_frC w w' → (∀ a : Nat, a < 24 → w' a = w a) → K w') : z_CV mX0_remember [z_r 24, z_r 1] sh w K := by
  obtain ⟨h1, h2, h3, h4, h5⟩ := hs
  exact c_remember hT h5 (fun B hB => (h4 B hB).1) h1.1 h2 (fun w' q1 q2 => k w' (h2.fr h1.1 (fun a a0 a1 => q2 a (by omega))) q1 (z_push_ok h4 h1) (fun a ha => q2 a (by omega)) (fun a ha => q2 a (by omega)))
theorem c_finish {sh : List z_C} {w : z_Mm} {B : z_A} {H : List z_A} {x y z : Int} {K : z_Mm → Prop} (hT : z_isTG sh 0) (hB : z_ok B) (hp : z_pr w 1 B) (hh : z_hr w H) (hok : ∀ C ∈ H, z_ok C)
    (k : ∀ w', z_cs w' (z_note B x y z) H → z_frC w w' → K w') : z_CV mX8_finish [z_r 0, z_i x, z_i y, z_i z] sh w K := by
  have hP : z_isPla sh 1 := hT.2.1
  have hN : z_isNet sh 12 := hT.2.2.1
  have hL : z_isLog sh 10 := hP.2.2.2.2.2.2.2.2.2
  refine z_CVi (t_X8_finish hT ?_)
  refine c_note hL hp.2.2.1 (x := x) (y := y) (z := z) (fun w1 l1 f1 => ?_)
  have e : ∀ a : Nat, a ≠ 10 → a ≠ 11 → w1 a = w a := f1
  have hB' : z_ok (z_note B x y z) := z_ok_note hB
  have hp1 : z_pr w1 1 (z_note B x y z) := by
    obtain ⟨⟨p1, p2, p3, p4, p5⟩, p6, -, p8⟩ := hp
    refine ⟨⟨?_, ?_, ?_, fun g g0 g1 => ?_, fun i i0 i1 => ?_⟩, fun i i0 i1 => ?_, l1, fun g g0 g1 => ?_⟩
    · rw [e 1 (by omega) (by omega), p1]; exact (z_note_lt (by decide)).symm
    · rw [e 1 (by omega) (by omega), p2]; exact (z_note_lt (by decide)).symm
    · rw [e 1 (by omega) (by omega), p3]; exact (z_note_lt (by decide)).symm
    · rw [z_note_lt (by decide)] at g1
      rw [e _ (by omega) (by omega), e _ (by omega) (by omega), e _ (by omega) (by omega), e _ (by omega) (by omega), e _ (by omega) (by omega), z_note_lt (by decide), z_note_lt (by decide), z_note_lt (by decide), z_note_lt (by decide), z_note_lt (by decide)]
      exact p4 g g0 g1
    · rw [z_note_lt (by decide)] at i1
      rw [e _ (by omega) (by omega), z_note_lt (by decide)]
      exact p5 i i0 i1
    · rw [z_note_lt (by decide)] at i1
      obtain ⟨c, c1, c2, c3, c4, c5⟩ := p6 i i0 i1
      rw [z_note_lt (by decide)]
      exact ⟨c, c1, c2, by rw [e _ (by omega) (by omega)]; exact c3, fun j j0 j1 => by rw [e _ (by omega) (by omega)]; exact c4 j j0 j1, by rw [e _ (by omega) (by omega)]; exact c5⟩
    · rw [e _ (by omega) (by omega)]
      exact p8 g g0 g1
  refine c_build hN hP hB'.1 hB'.2.1 (by unfold z_ap; omega) hp1.1 (fun w2 n2 f2 => ?_)
  have f : ∀ a : Nat, (a < 12 ∨ 17 < a) → w2 a = w1 a := fun a ha => f2 a (by omega)
  exact ⟨w2, rfl, rfl, k w2 ⟨hB', hp1.fr hB'.1 (fun a a0 a1 => f a (by omega)), n2, hok, hh.fr (fun C hC => (hok C hC).1) (fun a a0 a1 => by rw [f a (by omega), e a (by omega) (by omega)])⟩
    (fun a ha => by rw [f a (by omega), e a (by omega) (by omega)])⟩
/-! two plans that differ at one gap's number or at its being on -/
def z_only (A B : z_A) (g : Int) : Prop := A 0 0 = B 0 0 ∧ A 1 0 = B 1 0 ∧ A 2 0 = B 2 0 ∧ (∀ h : Int, h ≠ g → A 3 h = B 3 h ∧ A 4 h = B 4 h ∧ A 5 h = B 5 h ∧ A 6 h = B 6 h ∧ A 7 h = B 7 h) ∧ (A 3 g = B 3 g ∧ A 4 g = B 4 g ∧ A 5 g = B 5 g) ∧ ∀ e, A 8 e = B 8 e
theorem z_only.symm {A B : z_A} {g : Int} (h : z_only A B g) : z_only B A g := by
  obtain ⟨h0, h1, h2, h3, ⟨h4, h5, h6⟩, h7⟩ := h
  exact ⟨h0.symm, h1.symm, h2.symm, fun g hg => by obtain ⟨a, b, c, d, e⟩ := h3 g hg; exact ⟨a.symm, b.symm, c.symm, d.symm, e.symm⟩, ⟨h4.symm, h5.symm, h6.symm⟩, fun e => (h7 e).symm⟩
theorem z_only.F1 {A B : z_A} {g : Int} (h : z_only A B g) {x : Int → Int} (hx : z_F A g x) : z_F B g x := by
  obtain ⟨h0, h1, h2, h3, ⟨h4, h5, h6⟩, h7⟩ := h
  obtain ⟨f1, f2, f3⟩ := hx
  refine ⟨fun i i0 i1 i2 i3 => ?_, fun e e0 e1 => ?_, fun e e0 e1 e2 => ?_⟩
  · obtain ⟨a, b, c, d, e⟩ := h3 i i3
    have := f1 i i0 (by omega) (by rw [e]; exact i2) i3
    unfold z_Fg at this ⊢
    rw [a, b, c, d] at this
    exact this
  · rw [← h0]; exact f2 e e0 (by omega)
  · rw [← h7 e]
    exact f3 e e0 (by omega) (by rw [h7 e]; exact e2)
theorem z_F_g {A : z_A} {g : Int} (g0 : 0 ≤ g) (g1 : g < A 2 0) {x : Int → Int} : z_F A (-1) x ↔ (z_F A g x ∧ (¬ A 7 g = 0 → z_Fg A g x)) := by
  constructor
  · rintro ⟨h1, h2, h3⟩
    exact ⟨⟨fun i i0 i1 i2 i3 => h1 i i0 i1 i2 (by omega), h2, h3⟩, fun h => h1 g g0 g1 h (by omega)⟩
  · rintro ⟨⟨h1, h2, h3⟩, h4⟩
    refine ⟨fun i i0 i1 i2 i3 => ?_, h2, h3⟩
    by_cases e : i = g
    · subst e; exact h4 i2
    · exact h1 i i0 i1 i2 e
theorem z_only.F {A B : z_A} {g : Int} (h : z_only A B g) (g0 : 0 ≤ g) (g1 : g < A 2 0) {x : Int → Int} : z_F B (-1) x ↔ (z_F A g x ∧ (¬ B 7 g = 0 → z_Fg B g x)) := by
  rw [z_F_g g0 (by rw [← h.2.2.1]; exact g1)]
  exact ⟨fun q => ⟨h.symm.F1 q.1, q.2⟩, fun q => ⟨h.F1 q.1, q.2⟩⟩
/-- the least ring with a step -/
noncomputable def z_lr (A : z_A) (lo one oth kd c : Int) : Int := (if kd = 0 then c else -c) + z_Dd (z_Sx A lo) (A 1 0) (if kd = 0 then oth else one) (if kd = 0 then one else oth)
theorem z_only.off {A B : z_A} {g : Int} (h : z_only A B g) (g0 : 0 ≤ g) (g1 : g < A 2 0) (hb : z_bears A) (ho : B 7 g = 0) : z_bears B := by
  obtain ⟨x, hx⟩ := hb
  exact ⟨x, (h.F g0 g1).mpr ⟨((z_F_g g0 g1).mp hx).1, fun c => absurd ho c⟩⟩
theorem z_ring1 {S : z_E} {n : Int} {d : Int → Int → Int} (hd : z_IsD S n d) {p q l l' : Int} (hp : z_bl n p) (hq : z_bl n q) {F0 : (Int → Int) → Prop} {o : Prop} (hS : ∀ x, z_Fe S x ↔ (F0 x ∧ (o → x q - x p ≤ l))) :
    (∃ x, F0 x ∧ x q - x p ≤ l') ↔ 0 ≤ l' + d q p := by
  obtain ⟨h1, y, hy, hy2⟩ := hd q p hq hp
  constructor
  · rintro ⟨x, hx, hx2⟩
    by_cases c : 0 ≤ l' + d q p
    · exact c
    exfalso
    by_cases e : x q - x p ≤ l
    · have := h1 x ((hS x).mpr ⟨hx, fun _ => e⟩)
      omega
    · by_cases ho : o
      · have := ((hS y).mp hy).2 ho
        omega
      · have := h1 x ((hS x).mpr ⟨hx, fun c => absurd c ho⟩)
        omega
  · intro c
    exact ⟨y, ((hS y).mp hy).1, by omega⟩
theorem z_Fg_gs {A : z_A} {g one oth kd c : Int} {x : Int → Int} (h3 : A 3 g = one) (h4 : A 4 g = oth) (h5 : A 5 g = kd) (h6 : A 6 g = c) : z_Fg A g x ↔ x (if kd = 0 then oth else one) - x (if kd = 0 then one else oth) ≤ (if kd = 0 then c else -c) := by
  unfold z_Fg
  rw [h3, h4, h5, h6]
  split <;> exact Iff.rfl
theorem z_only.ring {A B : z_A} {g : Int} (h : z_only A B g) (hA : z_okg A) (g0 : 0 ≤ g) (g1 : g < A 2 0) (hb : z_bears A) (ho : ¬ B 7 g = 0) : z_bears B ↔ 0 ≤ z_lr A (-1) (A 3 g) (A 4 g) (A 5 g) (B 6 g) := by
  have hsv := z_sv_A hA hb (-1)
  obtain ⟨r1, r2, -⟩ := hA.2.2.2.1 g g0 g1
  obtain ⟨h4, h5, h6⟩ := h.2.2.2.2.1
  have key := z_ring1 (l' := if A 5 g = 0 then B 6 g else -(B 6 g)) (l := if A 5 g = 0 then A 6 g else -(A 6 g)) (z_sv_D hsv) (p := if A 5 g = 0 then A 3 g else A 4 g) (q := if A 5 g = 0 then A 4 g else A 3 g) (F0 := z_F A g) (o := ¬ A 7 g = 0)
    (by split <;> assumption) (by split <;> assumption) (fun x => by rw [z_F_iff hA, z_F_g g0 g1, z_Fg_gs rfl rfl rfl rfl])
  unfold z_lr
  rw [← key]
  constructor
  · rintro ⟨x, hx⟩
    obtain ⟨q1, q2⟩ := (h.F g0 g1).mp hx
    exact ⟨x, q1, (z_Fg_gs h4.symm h5.symm h6.symm rfl).mp (q2 ho)⟩
  · rintro ⟨x, q1, q2⟩
    exact ⟨x, (h.F g0 g1).mpr ⟨q1, fun _ => (z_Fg_gs h4.symm h5.symm h6.symm rfl).mpr q2⟩⟩
theorem z_only_num {A : z_A} {g n : Int} : z_only A (z_up A 6 g n) g := by
  refine ⟨(z_up_ne (Or.inl (by decide))).symm, (z_up_ne (Or.inl (by decide))).symm, (z_up_ne (Or.inl (by decide))).symm, fun h hh => ⟨(z_up_ne (Or.inl (by decide))).symm, (z_up_ne (Or.inl (by decide))).symm, (z_up_ne (Or.inl (by decide))).symm, (z_up_ne (Or.inr hh)).symm, (z_up_ne (Or.inl (by decide))).symm⟩,
    ⟨(z_up_ne (Or.inl (by decide))).symm, (z_up_ne (Or.inl (by decide))).symm, (z_up_ne (Or.inl (by decide))).symm⟩, fun e => (z_up_ne (Or.inl (by decide))).symm⟩
theorem z_only_on {A : z_A} {g n : Int} : z_only A (z_up A 7 g n) g := by
  refine ⟨(z_up_ne (Or.inl (by decide))).symm, (z_up_ne (Or.inl (by decide))).symm, (z_up_ne (Or.inl (by decide))).symm, fun h hh => ⟨(z_up_ne (Or.inl (by decide))).symm, (z_up_ne (Or.inl (by decide))).symm, (z_up_ne (Or.inl (by decide))).symm, (z_up_ne (Or.inl (by decide))).symm, (z_up_ne (Or.inr hh)).symm⟩,
    ⟨(z_up_ne (Or.inl (by decide))).symm, (z_up_ne (Or.inl (by decide))).symm, (z_up_ne (Or.inl (by decide))).symm⟩, fun e => (z_up_ne (Or.inl (by decide))).symm⟩
theorem z_only.okg {A B : z_A} {g : Int} (h : z_only A B g) (hA : z_okg A) (h6 : 0 ≤ B 6 g ∧ B 6 g ≤ 999) (h7 : 0 ≤ B 7 g ∧ B 7 g ≤ 1) : z_okg B := by
  obtain ⟨a1, a2, a3, a4, a5, a6⟩ := hA
  obtain ⟨b0, b1, b2, b3, ⟨b4, b5, b6⟩, b7⟩ := h
  refine ⟨by rw [← b0]; exact a1, by rw [← b1]; exact a2, by rw [← b2]; exact a3, fun i i0 i1 => ?_, fun e e0 e1 => ?_, ?_⟩
  · by_cases e : i = g
    · subst e
      rw [← b4, ← b5, ← b6, ← b1]
      obtain ⟨r1, r2, r3, r4, -, -⟩ := a4 i i0 (by omega)
      exact ⟨r1, r2, r3, r4, h6, h7⟩
    · obtain ⟨c3, c4, c5, c6, c7⟩ := b3 i e
      rw [← c3, ← c4, ← c5, ← c6, ← c7, ← b1]
      exact a4 i i0 (by omega)
  · rw [← b7 e]; exact a5 e e0 (by omega)
  · rw [← b7 0]; exact a6
/-- the rest of what makes a plan fit -/
def z_okn (A : z_A) : Prop := (∀ e : Int, 0 ≤ e → e < A 1 0 → z_vw (A 9 e)) ∧ A 9 0 = 20579924 ∧ (0 ≤ A 10 0 ∧ A 10 0 ≤ 40)
theorem z_okn_up {A : z_A} {ch : Nat} {i v : Int} (h : z_okn A) (h1 : ch ≠ 1) (h9 : ch ≠ 9) (h10 : ch ≠ 10) : z_okn (z_up A ch i v) := by
  unfold z_okn
  rw [z_up_ne (Or.inl h1.symm), z_up_ne (Or.inl h10.symm), z_up_ne (Or.inl h9.symm)]
  refine ⟨fun e e0 e1 => ?_, h.2⟩
  rw [z_up_ne (Or.inl h9.symm)]
  exact h.1 e e0 e1
theorem z_pr_num {w : z_Mm} {P : Nat} {A : z_A} {g n : Int} (h : z_pr w P A) : z_pr (z_W w (P + 7) g n) P (z_up A 6 g n) := by
  obtain ⟨⟨h1, h2, h3, h4, h5⟩, h6, h7, h8⟩ := h
  refine ⟨⟨?_, ?_, ?_, fun i i0 i1 => ?_, fun e e0 e1 => ?_⟩, fun e e0 e1 => ?_, ?_, fun i i0 i1 => ?_⟩
  · rw [z_Wf (by omega), z_up_ne (Or.inl (by decide))]; exact h1
  · rw [z_Wf (by omega), z_up_ne (Or.inl (by decide))]; exact h2
  · rw [z_Wf (by omega), z_up_ne (Or.inl (by decide))]; exact h3
  · rw [z_up_ne (Or.inl (by decide))] at i1
    obtain ⟨a, b, c, d, e⟩ := h4 i i0 i1
    rw [z_Wf (by omega), z_Wf (by omega), z_Wf (by omega), z_Wf (b := P + 8) (by omega), z_up_ne (Or.inl (by decide)), z_up_ne (Or.inl (by decide)), z_up_ne (Or.inl (by decide)), z_up_ne (c := 7) (Or.inl (by decide))]
    refine ⟨a, b, c, ?_, e⟩
    by_cases q : i = g
    · subst q; rw [z_W_same, z_up_same]
    · rw [z_W_ne (Or.inr q), z_up_ne (Or.inr q)]; exact d
  · rw [z_up_ne (Or.inl (by decide))] at e1
    rw [z_Wf (by omega), z_up_ne (Or.inl (by decide))]; exact h5 e e0 e1
  · rw [z_up_ne (Or.inl (by decide))] at e1
    unfold z_nm
    rw [z_Wf (by omega), z_Wf (by omega), z_up_ne (Or.inl (by decide))]; exact h6 e e0 e1
  · unfold z_lg
    rw [z_Wf (by omega), z_Wf (by omega), z_up_ne (Or.inl (by decide)), show z_up A 6 g n 11 = A 11 from funext fun _ => z_up_ne (Or.inl (by decide)), show z_up A 6 g n 12 = A 12 from funext fun _ => z_up_ne (Or.inl (by decide)), show z_up A 6 g n 13 = A 13 from funext fun _ => z_up_ne (Or.inl (by decide))]
    exact h7
  · rw [z_Wf (by omega)]; exact h8 i i0 i1
theorem z_pr_on {w : z_Mm} {P : Nat} {A : z_A} {g n : Int} (h : z_pr w P A) (hn : 0 ≤ n ∧ n ≤ 1) : z_pr (z_W w (P + 8) g n) P (z_up A 7 g n) := by
  obtain ⟨⟨h1, h2, h3, h4, h5⟩, h6, h7, h8⟩ := h
  refine ⟨⟨?_, ?_, ?_, fun i i0 i1 => ?_, fun e e0 e1 => ?_⟩, fun e e0 e1 => ?_, ?_, fun i i0 i1 => ?_⟩
  · rw [z_Wf (by omega), z_up_ne (Or.inl (by decide))]; exact h1
  · rw [z_Wf (by omega), z_up_ne (Or.inl (by decide))]; exact h2
  · rw [z_Wf (by omega), z_up_ne (Or.inl (by decide))]; exact h3
  · rw [z_up_ne (Or.inl (by decide))] at i1
    obtain ⟨a, b, c, d, e⟩ := h4 i i0 i1
    rw [z_Wf (by omega), z_Wf (by omega), z_Wf (by omega), z_Wf (by omega), z_up_ne (Or.inl (by decide)), z_up_ne (Or.inl (by decide)), z_up_ne (Or.inl (by decide)), z_up_ne (c := 6) (Or.inl (by decide))]
    refine ⟨a, b, c, d, ?_⟩
    by_cases q : i = g
    · subst q; rw [z_W_same, z_up_same]
    · rw [z_W_ne (Or.inr q), z_up_ne (Or.inr q)]; exact e
  · rw [z_up_ne (Or.inl (by decide))] at e1
    rw [z_Wf (by omega), z_up_ne (Or.inl (by decide))]; exact h5 e e0 e1
  · rw [z_up_ne (Or.inl (by decide))] at e1
    unfold z_nm
    rw [z_Wf (by omega), z_Wf (by omega), z_up_ne (Or.inl (by decide))]; exact h6 e e0 e1
  · unfold z_lg
    rw [z_Wf (by omega), z_Wf (by omega), z_up_ne (Or.inl (by decide)), show z_up A 7 g n 11 = A 11 from funext fun _ => z_up_ne (Or.inl (by decide)), show z_up A 7 g n 12 = A 12 from funext fun _ => z_up_ne (Or.inl (by decide)), show z_up A 7 g n 13 = A 13 from funext fun _ => z_up_ne (Or.inl (by decide))]
    exact h7
  · by_cases q : i = g
    · subst q; rw [z_W_same]; exact hn
    · rw [z_W_ne (Or.inr q)]; exact h8 i i0 i1
theorem z_mr_num {w : z_Mm} {A : z_A} {g n : Int} (h : z_mr (w 163) A) (hA : z_okg A) (g0 : 0 ≤ g) (g1 : g < 24) : z_mr (z_W w 163 (13 + 5 * g + 3) n 163) (z_up A 6 g n) := by
  obtain ⟨⟨h1, h2, h3, h4, h5⟩, h6, h7, h8, h9⟩ := h
  have r1 := hA.2.1
  have r2 := hA.2.2.1
  refine ⟨⟨?_, ?_, ?_, fun i i0 i1 => ?_, fun e e0 e1 => ?_⟩, fun e e0 e1 => ?_, by rw [z_up_ne (Or.inl (by decide))]; exact h7, ?_, fun i i0 i1 => ?_⟩
  · rw [z_W_ne (Or.inr (by omega)), z_up_ne (Or.inl (by decide))]; exact h1
  · rw [z_W_ne (Or.inr (by omega)), z_up_ne (Or.inl (by decide))]; exact h2
  · rw [z_W_ne (Or.inr (by omega)), z_up_ne (Or.inl (by decide))]; exact h3
  · rw [z_up_ne (Or.inl (by decide))] at i1
    obtain ⟨a, b, c, d, e⟩ := h4 i i0 i1
    rw [z_W_ne (Or.inr (by omega)), z_W_ne (Or.inr (by omega)), z_W_ne (Or.inr (by omega)), z_W_ne (j := 13 + 5 * i + 4) (Or.inr (by omega)), z_up_ne (Or.inl (by decide)), z_up_ne (Or.inl (by decide)), z_up_ne (Or.inl (by decide)), z_up_ne (c := 7) (Or.inl (by decide))]
    refine ⟨a, b, c, ?_, e⟩
    by_cases q : i = g
    · subst q; rw [z_W_same, z_up_same]
    · rw [z_W_ne (Or.inr (by omega)), z_up_ne (Or.inr q)]; exact d
  · rw [z_up_ne (Or.inl (by decide))] at e1
    rw [z_W_ne (Or.inr (by omega)), z_up_ne (Or.inl (by decide))]; exact h5 e e0 e1
  · rw [z_up_ne (Or.inl (by decide))] at e1
    rw [z_W_ne (Or.inr (by omega)), z_up_ne (Or.inl (by decide))]; exact h6 e e0 e1
  · rw [z_W_ne (Or.inr (by omega)), z_up_ne (Or.inl (by decide))]; exact h8
  · rw [z_up_ne (Or.inl (by decide))] at i1
    rw [z_W_ne (Or.inr (by omega)), z_W_ne (Or.inr (by omega)), z_W_ne (Or.inr (by omega)), z_up_ne (Or.inl (by decide)), z_up_ne (Or.inl (by decide)), z_up_ne (Or.inl (by decide))]; exact h9 i i0 i1
theorem z_mr_on {w : z_Mm} {A : z_A} {g n : Int} (h : z_mr (w 163) A) (hA : z_okg A) (g0 : 0 ≤ g) (g1 : g < 24) : z_mr (z_W w 163 (13 + 5 * g + 4) n 163) (z_up A 7 g n) := by
  obtain ⟨⟨h1, h2, h3, h4, h5⟩, h6, h7, h8, h9⟩ := h
  have r1 := hA.2.1
  have r2 := hA.2.2.1
  refine ⟨⟨?_, ?_, ?_, fun i i0 i1 => ?_, fun e e0 e1 => ?_⟩, fun e e0 e1 => ?_, by rw [z_up_ne (Or.inl (by decide))]; exact h7, ?_, fun i i0 i1 => ?_⟩
  · rw [z_W_ne (Or.inr (by omega)), z_up_ne (Or.inl (by decide))]; exact h1
  · rw [z_W_ne (Or.inr (by omega)), z_up_ne (Or.inl (by decide))]; exact h2
  · rw [z_W_ne (Or.inr (by omega)), z_up_ne (Or.inl (by decide))]; exact h3
  · rw [z_up_ne (Or.inl (by decide))] at i1
    obtain ⟨a, b, c, d, e⟩ := h4 i i0 i1
    rw [z_W_ne (Or.inr (by omega)), z_W_ne (Or.inr (by omega)), z_W_ne (Or.inr (by omega)), z_W_ne (j := 13 + 5 * i + 3) (Or.inr (by omega)), z_up_ne (Or.inl (by decide)), z_up_ne (Or.inl (by decide)), z_up_ne (Or.inl (by decide)), z_up_ne (c := 6) (Or.inl (by decide))]
    refine ⟨a, b, c, d, ?_⟩
    by_cases q : i = g
    · subst q; rw [z_W_same, z_up_same]
    · rw [z_W_ne (Or.inr (by omega)), z_up_ne (Or.inr q)]; exact e
  · rw [z_up_ne (Or.inl (by decide))] at e1
    rw [z_W_ne (Or.inr (by omega)), z_up_ne (Or.inl (by decide))]; exact h5 e e0 e1
  · rw [z_up_ne (Or.inl (by decide))] at e1
    rw [z_W_ne (Or.inr (by omega)), z_up_ne (Or.inl (by decide))]; exact h6 e e0 e1
  · rw [z_W_ne (Or.inr (by omega)), z_up_ne (Or.inl (by decide))]; exact h8
  · rw [z_up_ne (Or.inl (by decide))] at i1
    rw [z_W_ne (Or.inr (by omega)), z_W_ne (Or.inr (by omega)), z_W_ne (Or.inr (by omega)), z_up_ne (Or.inl (by decide)), z_up_ne (Or.inl (by decide)), z_up_ne (Or.inl (by decide))]; exact h9 i i0 i1
